/-! the methods do what the functions say, by program -/
set_option maxHeartbeats 4000000 in
set_option maxRecDepth 100000 in
theorem imp_f_X2_copyFrom_71_130_L18 {κ : Kx (Unit × CH)} (C : Cx κ cX2_copyFrom RX2 3 1 (40 * 1) [])     (Rr : Rt κ none (fun (_ : Unit × CH) (_ : Nat → Nat) => (none : Option Value)) (fun (q : (Unit × CH)) => q.2)) : ∀ (n : Nat) (x2 : Int32) (h : CH), Imp κ 18 [(0, .ref (kad κ 71)), (1, .ref (kad κ 130)), (2, .int (x2))] [] h (f_X2_copyFrom_71_130_L18 n x2 h) := by
  intro n
  induction n with
  | zero => intros; exact imp_none
  | succ n ih =>
    intro x2 h
    rw [f_X2_copyFrom_71_130_L18]
    refine r_iload_n C 19 2 rfl dX2_copyFrom_18 rfl ?_
    refine r_aload_n C 20 0 rfl dX2_copyFrom_19 rfl ?_
    refine r_getI C 23 dX2_copyFrom_20 flX2_9 kt_71 rfl rfl ?_
    refine r_icmp_ge C 26 110 dX2_copyFrom_23 (by decide) rfl (fun c_3 => ?_) (fun c_3 => ?_)
    · refine r_iload_n C 27 2 rfl dX2_copyFrom_26 rfl ?_
      refine r_bipush C 29 (nI 40) (by decide) dX2_copyFrom_27 rfl ?_
      refine r_icmp_ge C 32 110 dX2_copyFrom_29 (by decide) rfl (fun c_4 => ?_) (fun c_4 => ?_)
      · refine r_aload_n C 33 0 rfl dX2_copyFrom_32 rfl ?_
        refine r_getR C 36 dX2_copyFrom_33 flX2_22 kt_71 rfl rf_71_3 rfl ?_
        refine r_iload_n C 37 2 rfl dX2_copyFrom_36 rfl ?_
        refine r_aload_n C 38 1 rfl dX2_copyFrom_37 rfl ?_
        refine r_getR C 41 dX2_copyFrom_38 flX2_22 kt_130 rfl rf_130_3 rfl ?_
        refine r_iload_n C 42 2 rfl dX2_copyFrom_41 rfl ?_
        refine r_iald C 43 dX2_copyFrom_42 kt_131 rfl rfl (fun v_5 => ?_)
        refine r_iast C 44 dX2_copyFrom_43 kt_72 rfl rfl (fun h_6 => ?_)
        refine r_aload_n C 45 0 rfl dX2_copyFrom_44 rfl ?_
        refine r_getR C 48 dX2_copyFrom_45 flX2_26 kt_71 rfl rf_71_4 rfl ?_
        refine r_iload_n C 49 2 rfl dX2_copyFrom_48 rfl ?_
        refine r_aload_n C 50 1 rfl dX2_copyFrom_49 rfl ?_
        refine r_getR C 53 dX2_copyFrom_50 flX2_26 kt_130 rfl rf_130_4 rfl ?_
        refine r_iload_n C 54 2 rfl dX2_copyFrom_53 rfl ?_
        refine r_iald C 55 dX2_copyFrom_54 kt_132 rfl rfl (fun v_7 => ?_)
        refine r_iast C 56 dX2_copyFrom_55 kt_73 rfl rfl (fun h_8 => ?_)
        refine r_aload_n C 57 0 rfl dX2_copyFrom_56 rfl ?_
        refine r_getR C 60 dX2_copyFrom_57 flX2_29 kt_71 rfl rf_71_5 rfl ?_
        refine r_iload_n C 61 2 rfl dX2_copyFrom_60 rfl ?_
        refine r_aload_n C 62 1 rfl dX2_copyFrom_61 rfl ?_
        refine r_getR C 65 dX2_copyFrom_62 flX2_29 kt_130 rfl rf_130_5 rfl ?_
        refine r_iload_n C 66 2 rfl dX2_copyFrom_65 rfl ?_
        refine r_iald C 67 dX2_copyFrom_66 kt_133 rfl rfl (fun v_9 => ?_)
        refine r_iast C 68 dX2_copyFrom_67 kt_74 rfl rfl (fun h_10 => ?_)
        refine r_aload_n C 69 0 rfl dX2_copyFrom_68 rfl ?_
        refine r_getR C 72 dX2_copyFrom_69 flX2_32 kt_71 rfl rf_71_6 rfl ?_
        refine r_iload_n C 73 2 rfl dX2_copyFrom_72 rfl ?_
        refine r_aload_n C 74 1 rfl dX2_copyFrom_73 rfl ?_
        refine r_getR C 77 dX2_copyFrom_74 flX2_32 kt_130 rfl rf_130_6 rfl ?_
        refine r_iload_n C 78 2 rfl dX2_copyFrom_77 rfl ?_
        refine r_iald C 79 dX2_copyFrom_78 kt_134 rfl rfl (fun v_11 => ?_)
        refine r_iast C 80 dX2_copyFrom_79 kt_75 rfl rfl (fun h_12 => ?_)
        refine r_aload_n C 81 0 rfl dX2_copyFrom_80 rfl ?_
        refine r_getR C 84 dX2_copyFrom_81 flX2_35 kt_71 rfl rf_71_7 rfl ?_
        refine r_iload_n C 85 2 rfl dX2_copyFrom_84 rfl ?_
        refine r_aload_n C 86 1 rfl dX2_copyFrom_85 rfl ?_
        refine r_getR C 89 dX2_copyFrom_86 flX2_35 kt_130 rfl rf_130_7 rfl ?_
        refine r_iload_n C 90 2 rfl dX2_copyFrom_89 rfl ?_
        refine r_iald C 91 dX2_copyFrom_90 kt_135 rfl rfl (fun v_13 => ?_)
        refine r_iast C 92 dX2_copyFrom_91 kt_76 rfl rfl (fun h_14 => ?_)
        refine r_aload_n C 93 0 rfl dX2_copyFrom_92 rfl ?_
        refine r_getR C 96 dX2_copyFrom_93 flX2_38 kt_71 rfl rf_71_8 rfl ?_
        refine r_iload_n C 97 2 rfl dX2_copyFrom_96 rfl ?_
        refine r_aload_n C 98 1 rfl dX2_copyFrom_97 rfl ?_
        refine r_getR C 101 dX2_copyFrom_98 flX2_38 kt_130 rfl rf_130_8 rfl ?_
        refine r_iload_n C 102 2 rfl dX2_copyFrom_101 rfl ?_
        refine r_iald C 103 dX2_copyFrom_102 kt_136 rfl rfl (fun v_15 => ?_)
        refine r_iast C 104 dX2_copyFrom_103 kt_77 rfl rfl (fun h_16 => ?_)
        refine r_iinc C 107 2 (nI 1) [(2, .int (x2 + (nI 1))), (0, .ref (kad κ 71)), (1, .ref (kad κ 130))] dX2_copyFrom_104 rfl (by decide) (by decide) rfl rfl ?_
        refine r_goto C 18 dX2_copyFrom_107 (by decide) ?_
        exact imp_sub [(0, .ref (kad κ 71)), (1, .ref (kad κ 130)), (2, .int (x2 + (nI 1)))] [1, 2, 0] rfl (ih (x2 + (nI 1)) h_16)
      · exact r_vret C Rr dX2_copyFrom_110 (fun _ => rfl) rfl
    · exact r_vret C Rr dX2_copyFrom_110 (fun _ => rfl) rfl
set_option maxHeartbeats 4000000 in
set_option maxRecDepth 100000 in
theorem imp_f_X2_copyFrom_71_130 {κ : Kx (Unit × CH)} (C : Cx κ cX2_copyFrom RX2 3 1 (40 * 1) [])   (h : CH) (Rr : Rt κ none (fun (_ : Unit × CH) (_ : Nat → Nat) => (none : Option Value)) (fun (q : (Unit × CH)) => q.2)) : Imp κ 0 [(0, .ref (kad κ 71)), (1, .ref (kad κ 130))] [] h (f_X2_copyFrom_71_130 h) := by
  unfold f_X2_copyFrom_71_130
  refine r_aload_n C 1 0 rfl dX2_copyFrom_0 rfl ?_
  refine r_aload_n C 2 1 rfl dX2_copyFrom_1 rfl ?_
  refine r_getI C 5 dX2_copyFrom_2 flX2_9 kt_130 rfl rfl ?_
  refine r_putI C 8 dX2_copyFrom_5 flX2_9 kt_71 rfl rfl (fun h_1 => ?_)
  refine r_aload_n C 9 0 rfl dX2_copyFrom_8 rfl ?_
  refine r_aload_n C 10 1 rfl dX2_copyFrom_9 rfl ?_
  refine r_getI C 13 dX2_copyFrom_10 flX2_15 kt_130 rfl rfl ?_
  refine r_putI C 16 dX2_copyFrom_13 flX2_15 kt_71 rfl rfl (fun h_2 => ?_)
  refine r_iconst C 17 (nI 0) (by decide) dX2_copyFrom_16 rfl ?_
  refine r_istore_n C 18 2 [(2, .int ((nI 0))), (0, .ref (kad κ 71)), (1, .ref (kad κ 130))] dX2_copyFrom_17 rfl (by decide) rfl rfl ?_
  refine imp_sub [(0, .ref (kad κ 71)), (1, .ref (kad κ 130)), (2, .int ((nI 0)))] [1, 2, 0] rfl ?_
  refine imp_f_X2_copyFrom_71_130_L18 C Rr FU ((nI 0)) h_2
set_option maxHeartbeats 4000000 in
theorem ok_f_X2_copyFrom_71_130   (h : CH) : ∀ q, f_X2_copyFrom_71_130 h = some q → MG yX2_copyFrom cX2_copyFrom 3 none [] 1 (fun ad => [.ref (ad 71), .ref (ad 130)]) h ((fun (_ : Unit × CH) (_ : Nat → Nat) => (none : Option Value)) q) ((fun (q : (Unit × CH)) => q.2) q) := mg_of RX2 (by decide) rfl (fun _ => Nat.le_of_ble_eq_true rfl) (fun κ C Rr => imp_f_X2_copyFrom_71_130 C  h Rr)
set_option maxHeartbeats 4000000 in
set_option maxRecDepth 100000 in
theorem imp_f_X2_copyFrom_71_137_L18 {κ : Kx (Unit × CH)} (C : Cx κ cX2_copyFrom RX2 3 1 (40 * 1) [])     (Rr : Rt κ none (fun (_ : Unit × CH) (_ : Nat → Nat) => (none : Option Value)) (fun (q : (Unit × CH)) => q.2)) : ∀ (n : Nat) (x2 : Int32) (h : CH), Imp κ 18 [(0, .ref (kad κ 71)), (1, .ref (kad κ 137)), (2, .int (x2))] [] h (f_X2_copyFrom_71_137_L18 n x2 h) := by
  intro n
  induction n with
  | zero => intros; exact imp_none
  | succ n ih =>
    intro x2 h
    rw [f_X2_copyFrom_71_137_L18]
    refine r_iload_n C 19 2 rfl dX2_copyFrom_18 rfl ?_
    refine r_aload_n C 20 0 rfl dX2_copyFrom_19 rfl ?_
    refine r_getI C 23 dX2_copyFrom_20 flX2_9 kt_71 rfl rfl ?_
    refine r_icmp_ge C 26 110 dX2_copyFrom_23 (by decide) rfl (fun c_3 => ?_) (fun c_3 => ?_)
    · refine r_iload_n C 27 2 rfl dX2_copyFrom_26 rfl ?_
      refine r_bipush C 29 (nI 40) (by decide) dX2_copyFrom_27 rfl ?_
      refine r_icmp_ge C 32 110 dX2_copyFrom_29 (by decide) rfl (fun c_4 => ?_) (fun c_4 => ?_)
      · refine r_aload_n C 33 0 rfl dX2_copyFrom_32 rfl ?_
        refine r_getR C 36 dX2_copyFrom_33 flX2_22 kt_71 rfl rf_71_3 rfl ?_
        refine r_iload_n C 37 2 rfl dX2_copyFrom_36 rfl ?_
        refine r_aload_n C 38 1 rfl dX2_copyFrom_37 rfl ?_
        refine r_getR C 41 dX2_copyFrom_38 flX2_22 kt_137 rfl rf_137_3 rfl ?_
        refine r_iload_n C 42 2 rfl dX2_copyFrom_41 rfl ?_
        refine r_iald C 43 dX2_copyFrom_42 kt_138 rfl rfl (fun v_5 => ?_)
        refine r_iast C 44 dX2_copyFrom_43 kt_72 rfl rfl (fun h_6 => ?_)
        refine r_aload_n C 45 0 rfl dX2_copyFrom_44 rfl ?_
        refine r_getR C 48 dX2_copyFrom_45 flX2_26 kt_71 rfl rf_71_4 rfl ?_
        refine r_iload_n C 49 2 rfl dX2_copyFrom_48 rfl ?_
        refine r_aload_n C 50 1 rfl dX2_copyFrom_49 rfl ?_
        refine r_getR C 53 dX2_copyFrom_50 flX2_26 kt_137 rfl rf_137_4 rfl ?_
        refine r_iload_n C 54 2 rfl dX2_copyFrom_53 rfl ?_
        refine r_iald C 55 dX2_copyFrom_54 kt_139 rfl rfl (fun v_7 => ?_)
        refine r_iast C 56 dX2_copyFrom_55 kt_73 rfl rfl (fun h_8 => ?_)
        refine r_aload_n C 57 0 rfl dX2_copyFrom_56 rfl ?_
        refine r_getR C 60 dX2_copyFrom_57 flX2_29 kt_71 rfl rf_71_5 rfl ?_
        refine r_iload_n C 61 2 rfl dX2_copyFrom_60 rfl ?_
        refine r_aload_n C 62 1 rfl dX2_copyFrom_61 rfl ?_
        refine r_getR C 65 dX2_copyFrom_62 flX2_29 kt_137 rfl rf_137_5 rfl ?_
        refine r_iload_n C 66 2 rfl dX2_copyFrom_65 rfl ?_
        refine r_iald C 67 dX2_copyFrom_66 kt_140 rfl rfl (fun v_9 => ?_)
        refine r_iast C 68 dX2_copyFrom_67 kt_74 rfl rfl (fun h_10 => ?_)
        refine r_aload_n C 69 0 rfl dX2_copyFrom_68 rfl ?_
        refine r_getR C 72 dX2_copyFrom_69 flX2_32 kt_71 rfl rf_71_6 rfl ?_
        refine r_iload_n C 73 2 rfl dX2_copyFrom_72 rfl ?_
        refine r_aload_n C 74 1 rfl dX2_copyFrom_73 rfl ?_
        refine r_getR C 77 dX2_copyFrom_74 flX2_32 kt_137 rfl rf_137_6 rfl ?_
        refine r_iload_n C 78 2 rfl dX2_copyFrom_77 rfl ?_
        refine r_iald C 79 dX2_copyFrom_78 kt_141 rfl rfl (fun v_11 => ?_)
        refine r_iast C 80 dX2_copyFrom_79 kt_75 rfl rfl (fun h_12 => ?_)
        refine r_aload_n C 81 0 rfl dX2_copyFrom_80 rfl ?_
        refine r_getR C 84 dX2_copyFrom_81 flX2_35 kt_71 rfl rf_71_7 rfl ?_
        refine r_iload_n C 85 2 rfl dX2_copyFrom_84 rfl ?_
        refine r_aload_n C 86 1 rfl dX2_copyFrom_85 rfl ?_
        refine r_getR C 89 dX2_copyFrom_86 flX2_35 kt_137 rfl rf_137_7 rfl ?_
        refine r_iload_n C 90 2 rfl dX2_copyFrom_89 rfl ?_
        refine r_iald C 91 dX2_copyFrom_90 kt_142 rfl rfl (fun v_13 => ?_)
        refine r_iast C 92 dX2_copyFrom_91 kt_76 rfl rfl (fun h_14 => ?_)
        refine r_aload_n C 93 0 rfl dX2_copyFrom_92 rfl ?_
        refine r_getR C 96 dX2_copyFrom_93 flX2_38 kt_71 rfl rf_71_8 rfl ?_
        refine r_iload_n C 97 2 rfl dX2_copyFrom_96 rfl ?_
        refine r_aload_n C 98 1 rfl dX2_copyFrom_97 rfl ?_
        refine r_getR C 101 dX2_copyFrom_98 flX2_38 kt_137 rfl rf_137_8 rfl ?_
        refine r_iload_n C 102 2 rfl dX2_copyFrom_101 rfl ?_
        refine r_iald C 103 dX2_copyFrom_102 kt_143 rfl rfl (fun v_15 => ?_)
        refine r_iast C 104 dX2_copyFrom_103 kt_77 rfl rfl (fun h_16 => ?_)
        refine r_iinc C 107 2 (nI 1) [(2, .int (x2 + (nI 1))), (0, .ref (kad κ 71)), (1, .ref (kad κ 137))] dX2_copyFrom_104 rfl (by decide) (by decide) rfl rfl ?_
        refine r_goto C 18 dX2_copyFrom_107 (by decide) ?_
        exact imp_sub [(0, .ref (kad κ 71)), (1, .ref (kad κ 137)), (2, .int (x2 + (nI 1)))] [1, 2, 0] rfl (ih (x2 + (nI 1)) h_16)
      · exact r_vret C Rr dX2_copyFrom_110 (fun _ => rfl) rfl
    · exact r_vret C Rr dX2_copyFrom_110 (fun _ => rfl) rfl
set_option maxHeartbeats 4000000 in
set_option maxRecDepth 100000 in
theorem imp_f_X2_copyFrom_71_137 {κ : Kx (Unit × CH)} (C : Cx κ cX2_copyFrom RX2 3 1 (40 * 1) [])   (h : CH) (Rr : Rt κ none (fun (_ : Unit × CH) (_ : Nat → Nat) => (none : Option Value)) (fun (q : (Unit × CH)) => q.2)) : Imp κ 0 [(0, .ref (kad κ 71)), (1, .ref (kad κ 137))] [] h (f_X2_copyFrom_71_137 h) := by
  unfold f_X2_copyFrom_71_137
  refine r_aload_n C 1 0 rfl dX2_copyFrom_0 rfl ?_
  refine r_aload_n C 2 1 rfl dX2_copyFrom_1 rfl ?_
  refine r_getI C 5 dX2_copyFrom_2 flX2_9 kt_137 rfl rfl ?_
  refine r_putI C 8 dX2_copyFrom_5 flX2_9 kt_71 rfl rfl (fun h_1 => ?_)
  refine r_aload_n C 9 0 rfl dX2_copyFrom_8 rfl ?_
  refine r_aload_n C 10 1 rfl dX2_copyFrom_9 rfl ?_
  refine r_getI C 13 dX2_copyFrom_10 flX2_15 kt_137 rfl rfl ?_
  refine r_putI C 16 dX2_copyFrom_13 flX2_15 kt_71 rfl rfl (fun h_2 => ?_)
  refine r_iconst C 17 (nI 0) (by decide) dX2_copyFrom_16 rfl ?_
  refine r_istore_n C 18 2 [(2, .int ((nI 0))), (0, .ref (kad κ 71)), (1, .ref (kad κ 137))] dX2_copyFrom_17 rfl (by decide) rfl rfl ?_
  refine imp_sub [(0, .ref (kad κ 71)), (1, .ref (kad κ 137)), (2, .int ((nI 0)))] [1, 2, 0] rfl ?_
  refine imp_f_X2_copyFrom_71_137_L18 C Rr FU ((nI 0)) h_2
set_option maxHeartbeats 4000000 in
theorem ok_f_X2_copyFrom_71_137   (h : CH) : ∀ q, f_X2_copyFrom_71_137 h = some q → MG yX2_copyFrom cX2_copyFrom 3 none [] 1 (fun ad => [.ref (ad 71), .ref (ad 137)]) h ((fun (_ : Unit × CH) (_ : Nat → Nat) => (none : Option Value)) q) ((fun (q : (Unit × CH)) => q.2) q) := mg_of RX2 (by decide) rfl (fun _ => Nat.le_of_ble_eq_true rfl) (fun κ C Rr => imp_f_X2_copyFrom_71_137 C  h Rr)
set_option maxHeartbeats 4000000 in
set_option maxRecDepth 100000 in
theorem imp_f_X2_copyFrom_71_144_L18 {κ : Kx (Unit × CH)} (C : Cx κ cX2_copyFrom RX2 3 1 (40 * 1) [])     (Rr : Rt κ none (fun (_ : Unit × CH) (_ : Nat → Nat) => (none : Option Value)) (fun (q : (Unit × CH)) => q.2)) : ∀ (n : Nat) (x2 : Int32) (h : CH), Imp κ 18 [(0, .ref (kad κ 71)), (1, .ref (kad κ 144)), (2, .int (x2))] [] h (f_X2_copyFrom_71_144_L18 n x2 h) := by
  intro n
  induction n with
  | zero => intros; exact imp_none
  | succ n ih =>
    intro x2 h
    rw [f_X2_copyFrom_71_144_L18]
    refine r_iload_n C 19 2 rfl dX2_copyFrom_18 rfl ?_
    refine r_aload_n C 20 0 rfl dX2_copyFrom_19 rfl ?_
    refine r_getI C 23 dX2_copyFrom_20 flX2_9 kt_71 rfl rfl ?_
    refine r_icmp_ge C 26 110 dX2_copyFrom_23 (by decide) rfl (fun c_3 => ?_) (fun c_3 => ?_)
    · refine r_iload_n C 27 2 rfl dX2_copyFrom_26 rfl ?_
      refine r_bipush C 29 (nI 40) (by decide) dX2_copyFrom_27 rfl ?_
      refine r_icmp_ge C 32 110 dX2_copyFrom_29 (by decide) rfl (fun c_4 => ?_) (fun c_4 => ?_)
      · refine r_aload_n C 33 0 rfl dX2_copyFrom_32 rfl ?_
        refine r_getR C 36 dX2_copyFrom_33 flX2_22 kt_71 rfl rf_71_3 rfl ?_
        refine r_iload_n C 37 2 rfl dX2_copyFrom_36 rfl ?_
        refine r_aload_n C 38 1 rfl dX2_copyFrom_37 rfl ?_
        refine r_getR C 41 dX2_copyFrom_38 flX2_22 kt_144 rfl rf_144_3 rfl ?_
        refine r_iload_n C 42 2 rfl dX2_copyFrom_41 rfl ?_
        refine r_iald C 43 dX2_copyFrom_42 kt_145 rfl rfl (fun v_5 => ?_)
        refine r_iast C 44 dX2_copyFrom_43 kt_72 rfl rfl (fun h_6 => ?_)
        refine r_aload_n C 45 0 rfl dX2_copyFrom_44 rfl ?_
        refine r_getR C 48 dX2_copyFrom_45 flX2_26 kt_71 rfl rf_71_4 rfl ?_
        refine r_iload_n C 49 2 rfl dX2_copyFrom_48 rfl ?_
        refine r_aload_n C 50 1 rfl dX2_copyFrom_49 rfl ?_
        refine r_getR C 53 dX2_copyFrom_50 flX2_26 kt_144 rfl rf_144_4 rfl ?_
        refine r_iload_n C 54 2 rfl dX2_copyFrom_53 rfl ?_
        refine r_iald C 55 dX2_copyFrom_54 kt_146 rfl rfl (fun v_7 => ?_)
        refine r_iast C 56 dX2_copyFrom_55 kt_73 rfl rfl (fun h_8 => ?_)
        refine r_aload_n C 57 0 rfl dX2_copyFrom_56 rfl ?_
        refine r_getR C 60 dX2_copyFrom_57 flX2_29 kt_71 rfl rf_71_5 rfl ?_
        refine r_iload_n C 61 2 rfl dX2_copyFrom_60 rfl ?_
        refine r_aload_n C 62 1 rfl dX2_copyFrom_61 rfl ?_
        refine r_getR C 65 dX2_copyFrom_62 flX2_29 kt_144 rfl rf_144_5 rfl ?_
        refine r_iload_n C 66 2 rfl dX2_copyFrom_65 rfl ?_
        refine r_iald C 67 dX2_copyFrom_66 kt_147 rfl rfl (fun v_9 => ?_)
        refine r_iast C 68 dX2_copyFrom_67 kt_74 rfl rfl (fun h_10 => ?_)
        refine r_aload_n C 69 0 rfl dX2_copyFrom_68 rfl ?_
        refine r_getR C 72 dX2_copyFrom_69 flX2_32 kt_71 rfl rf_71_6 rfl ?_
        refine r_iload_n C 73 2 rfl dX2_copyFrom_72 rfl ?_
        refine r_aload_n C 74 1 rfl dX2_copyFrom_73 rfl ?_
        refine r_getR C 77 dX2_copyFrom_74 flX2_32 kt_144 rfl rf_144_6 rfl ?_
        refine r_iload_n C 78 2 rfl dX2_copyFrom_77 rfl ?_
        refine r_iald C 79 dX2_copyFrom_78 kt_148 rfl rfl (fun v_11 => ?_)
        refine r_iast C 80 dX2_copyFrom_79 kt_75 rfl rfl (fun h_12 => ?_)
        refine r_aload_n C 81 0 rfl dX2_copyFrom_80 rfl ?_
        refine r_getR C 84 dX2_copyFrom_81 flX2_35 kt_71 rfl rf_71_7 rfl ?_
        refine r_iload_n C 85 2 rfl dX2_copyFrom_84 rfl ?_
        refine r_aload_n C 86 1 rfl dX2_copyFrom_85 rfl ?_
        refine r_getR C 89 dX2_copyFrom_86 flX2_35 kt_144 rfl rf_144_7 rfl ?_
        refine r_iload_n C 90 2 rfl dX2_copyFrom_89 rfl ?_
        refine r_iald C 91 dX2_copyFrom_90 kt_149 rfl rfl (fun v_13 => ?_)
        refine r_iast C 92 dX2_copyFrom_91 kt_76 rfl rfl (fun h_14 => ?_)
        refine r_aload_n C 93 0 rfl dX2_copyFrom_92 rfl ?_
        refine r_getR C 96 dX2_copyFrom_93 flX2_38 kt_71 rfl rf_71_8 rfl ?_
        refine r_iload_n C 97 2 rfl dX2_copyFrom_96 rfl ?_
        refine r_aload_n C 98 1 rfl dX2_copyFrom_97 rfl ?_
        refine r_getR C 101 dX2_copyFrom_98 flX2_38 kt_144 rfl rf_144_8 rfl ?_
        refine r_iload_n C 102 2 rfl dX2_copyFrom_101 rfl ?_
        refine r_iald C 103 dX2_copyFrom_102 kt_150 rfl rfl (fun v_15 => ?_)
        refine r_iast C 104 dX2_copyFrom_103 kt_77 rfl rfl (fun h_16 => ?_)
        refine r_iinc C 107 2 (nI 1) [(2, .int (x2 + (nI 1))), (0, .ref (kad κ 71)), (1, .ref (kad κ 144))] dX2_copyFrom_104 rfl (by decide) (by decide) rfl rfl ?_
        refine r_goto C 18 dX2_copyFrom_107 (by decide) ?_
        exact imp_sub [(0, .ref (kad κ 71)), (1, .ref (kad κ 144)), (2, .int (x2 + (nI 1)))] [1, 2, 0] rfl (ih (x2 + (nI 1)) h_16)
      · exact r_vret C Rr dX2_copyFrom_110 (fun _ => rfl) rfl
    · exact r_vret C Rr dX2_copyFrom_110 (fun _ => rfl) rfl
set_option maxHeartbeats 4000000 in
set_option maxRecDepth 100000 in
theorem imp_f_X2_copyFrom_71_144 {κ : Kx (Unit × CH)} (C : Cx κ cX2_copyFrom RX2 3 1 (40 * 1) [])   (h : CH) (Rr : Rt κ none (fun (_ : Unit × CH) (_ : Nat → Nat) => (none : Option Value)) (fun (q : (Unit × CH)) => q.2)) : Imp κ 0 [(0, .ref (kad κ 71)), (1, .ref (kad κ 144))] [] h (f_X2_copyFrom_71_144 h) := by
  unfold f_X2_copyFrom_71_144
  refine r_aload_n C 1 0 rfl dX2_copyFrom_0 rfl ?_
  refine r_aload_n C 2 1 rfl dX2_copyFrom_1 rfl ?_
  refine r_getI C 5 dX2_copyFrom_2 flX2_9 kt_144 rfl rfl ?_
  refine r_putI C 8 dX2_copyFrom_5 flX2_9 kt_71 rfl rfl (fun h_1 => ?_)
  refine r_aload_n C 9 0 rfl dX2_copyFrom_8 rfl ?_
  refine r_aload_n C 10 1 rfl dX2_copyFrom_9 rfl ?_
  refine r_getI C 13 dX2_copyFrom_10 flX2_15 kt_144 rfl rfl ?_
  refine r_putI C 16 dX2_copyFrom_13 flX2_15 kt_71 rfl rfl (fun h_2 => ?_)
  refine r_iconst C 17 (nI 0) (by decide) dX2_copyFrom_16 rfl ?_
  refine r_istore_n C 18 2 [(2, .int ((nI 0))), (0, .ref (kad κ 71)), (1, .ref (kad κ 144))] dX2_copyFrom_17 rfl (by decide) rfl rfl ?_
  refine imp_sub [(0, .ref (kad κ 71)), (1, .ref (kad κ 144)), (2, .int ((nI 0)))] [1, 2, 0] rfl ?_
  refine imp_f_X2_copyFrom_71_144_L18 C Rr FU ((nI 0)) h_2
set_option maxHeartbeats 4000000 in
theorem ok_f_X2_copyFrom_71_144   (h : CH) : ∀ q, f_X2_copyFrom_71_144 h = some q → MG yX2_copyFrom cX2_copyFrom 3 none [] 1 (fun ad => [.ref (ad 71), .ref (ad 144)]) h ((fun (_ : Unit × CH) (_ : Nat → Nat) => (none : Option Value)) q) ((fun (q : (Unit × CH)) => q.2) q) := mg_of RX2 (by decide) rfl (fun _ => Nat.le_of_ble_eq_true rfl) (fun κ C Rr => imp_f_X2_copyFrom_71_144 C  h Rr)
set_option maxHeartbeats 4000000 in
set_option maxRecDepth 100000 in
theorem imp_f_X11_back {κ : Kx (Int32 × CH)} (C : Cx κ cX11_back RX11 3 2 (40 * 2) []) (x1 : Int32)  (h : CH) (Rr : Rt κ (some .int) (fun (q : Int32 × CH) (_ : Nat → Nat) => some (Value.int q.1)) (fun (q : (Int32 × CH)) => q.2)) : Imp κ 0 [(0, .ref (kad κ 0)), (1, .int (x1))] [] h (f_X11_back x1 h) := by
  unfold f_X11_back
  refine r_aload_n C 1 0 rfl dX11_back_0 rfl ?_
  refine r_iload_n C 2 1 rfl dX11_back_1 rfl ?_
  refine r_cVpO C 5 [] (ok_f_X11_boxAt x1 h) dX11_back_2 lvX11_309 kt_0 rfl rfl rfl (by decide) (Nat.le_of_ble_eq_true rfl) rfl rfl (Nat.le_of_ble_eq_true rfl) rfl rfl (fun v_1 => ?_)
  refine r_astore_nO C 6 2 [(2, va_rf (Option.map (kad κ) v_1)), (0, .ref (kad κ 0)), (1, .int (x1))] dX11_back_5 rfl (by decide) rfl rfl ?_
  refine r_aload_nO C 7 0 rfl dX11_back_6 rfl ?_
  refine imp_ite (fun e_2 => ?_) (fun e_2 => ?_)
  · rw [e_2]
    refine r_ifnullN C 17 dX11_back_7 (by decide) ?_
    refine r_iconst C 18 (-1) (by decide) dX11_back_17 rfl ?_
    exact r_iret C Rr dX11_back_18 (fun _ => rfl) rfl
  · refine imp_ite (fun e_5 => ?_) (fun e_5 => ?_)
    · rw [e_5]
      refine r_ifnull C 10 dX11_back_7 rfl ?_
      refine r_aload_n C 11 0 rfl dX11_back_10 rfl ?_
      refine r_getI C 14 dX11_back_11 flX11_316 kt_130 rfl rfl ?_
      refine r_if_ne C 17 19 dX11_back_14 (by decide) rfl (fun c_3 => ?_) (fun c_3 => ?_)
      · refine r_iconst C 18 (-1) (by decide) dX11_back_17 rfl ?_
        exact r_iret C Rr dX11_back_18 (fun _ => rfl) rfl
      · refine r_aload_n C 20 1 rfl dX11_back_19 rfl ?_
        refine r_getR C 23 dX11_back_20 flX11_55 kt_0 rfl rf_0_9 rfl ?_
        refine r_aload_n C 24 0 rfl dX11_back_23 rfl ?_
        refine r_cViV C 27 [] (ok_f_X2_copyFrom_71_130 h) dX11_back_24 lvX11_313 kt_71 rfl rfl rfl (by decide) (Nat.le_of_ble_eq_true rfl) rfl rfl (Nat.le_of_ble_eq_true rfl) rfl rfl (fun _ h_4 => ?_)
        refine r_aload_n C 28 1 rfl dX11_back_27 rfl ?_
        refine r_getR C 31 dX11_back_28 flX11_55 kt_0 rfl rf_0_9 rfl ?_
        refine r_getI C 34 dX11_back_31 flX11_320 kt_71 rfl rfl ?_
        exact r_iret C Rr dX11_back_34 (fun _ => rfl) rfl
    · refine imp_ite (fun e_8 => ?_) (fun e_8 => ?_)
      · rw [e_8]
        refine r_ifnull C 10 dX11_back_7 rfl ?_
        refine r_aload_n C 11 0 rfl dX11_back_10 rfl ?_
        refine r_getI C 14 dX11_back_11 flX11_316 kt_137 rfl rfl ?_
        refine r_if_ne C 17 19 dX11_back_14 (by decide) rfl (fun c_6 => ?_) (fun c_6 => ?_)
        · refine r_iconst C 18 (-1) (by decide) dX11_back_17 rfl ?_
          exact r_iret C Rr dX11_back_18 (fun _ => rfl) rfl
        · refine r_aload_n C 20 1 rfl dX11_back_19 rfl ?_
          refine r_getR C 23 dX11_back_20 flX11_55 kt_0 rfl rf_0_9 rfl ?_
          refine r_aload_n C 24 0 rfl dX11_back_23 rfl ?_
          refine r_cViV C 27 [] (ok_f_X2_copyFrom_71_137 h) dX11_back_24 lvX11_313 kt_71 rfl rfl rfl (by decide) (Nat.le_of_ble_eq_true rfl) rfl rfl (Nat.le_of_ble_eq_true rfl) rfl rfl (fun _ h_7 => ?_)
          refine r_aload_n C 28 1 rfl dX11_back_27 rfl ?_
          refine r_getR C 31 dX11_back_28 flX11_55 kt_0 rfl rf_0_9 rfl ?_
          refine r_getI C 34 dX11_back_31 flX11_320 kt_71 rfl rfl ?_
          exact r_iret C Rr dX11_back_34 (fun _ => rfl) rfl
      · refine imp_ite (fun e_11 => ?_) (fun e_11 => ?_)
        · rw [e_11]
          refine r_ifnull C 10 dX11_back_7 rfl ?_
          refine r_aload_n C 11 0 rfl dX11_back_10 rfl ?_
          refine r_getI C 14 dX11_back_11 flX11_316 kt_144 rfl rfl ?_
          refine r_if_ne C 17 19 dX11_back_14 (by decide) rfl (fun c_9 => ?_) (fun c_9 => ?_)
          · refine r_iconst C 18 (-1) (by decide) dX11_back_17 rfl ?_
            exact r_iret C Rr dX11_back_18 (fun _ => rfl) rfl
          · refine r_aload_n C 20 1 rfl dX11_back_19 rfl ?_
            refine r_getR C 23 dX11_back_20 flX11_55 kt_0 rfl rf_0_9 rfl ?_
            refine r_aload_n C 24 0 rfl dX11_back_23 rfl ?_
            refine r_cViV C 27 [] (ok_f_X2_copyFrom_71_144 h) dX11_back_24 lvX11_313 kt_71 rfl rfl rfl (by decide) (Nat.le_of_ble_eq_true rfl) rfl rfl (Nat.le_of_ble_eq_true rfl) rfl rfl (fun _ h_10 => ?_)
            refine r_aload_n C 28 1 rfl dX11_back_27 rfl ?_
            refine r_getR C 31 dX11_back_28 flX11_55 kt_0 rfl rf_0_9 rfl ?_
            refine r_getI C 34 dX11_back_31 flX11_320 kt_71 rfl rfl ?_
            exact r_iret C Rr dX11_back_34 (fun _ => rfl) rfl
        · exact imp_none
set_option maxHeartbeats 4000000 in
theorem ok_f_X11_back (x1 : Int32)  (h : CH) : ∀ q, f_X11_back x1 h = some q → MG yX11_back cX11_back 3 (some .int) [] 2 (fun ad => [.ref (ad 0), .int x1]) h ((fun (q : Int32 × CH) (_ : Nat → Nat) => some (Value.int q.1)) q) ((fun (q : (Int32 × CH)) => q.2) q) := mg_of RX11 (by decide) rfl (fun _ => Nat.le_of_ble_eq_true rfl) (fun κ C Rr => imp_f_X11_back C x1 h Rr)
set_option maxHeartbeats 4000000 in
set_option maxRecDepth 100000 in
theorem imp_f_X11_about {κ : Kx Int32} (C : Cx κ cX11_about RX11 2 1 (40 * 1) []) (x1 : Int32)  (h : CH) (Rr : Rt κ (some .int) (fun (x : Int32) (_ : Nat → Nat) => some (Value.int x)) (fun (_ : Int32) => h)) : Imp κ 0 [(0, .ref (kad κ 0)), (1, .int (x1))] [] h (f_X11_about x1 h) := by
  unfold f_X11_about
  refine r_iload_n C 1 1 rfl dX11_about_0 rfl ?_
  refine imp_ite (fun g_1 => ?_) (fun g_1 => ?_)
  · refine r_tsIn C 52 (nI 0) g_1 dX11_about_1 (by decide) (by decide) rfl (by decide) ?_
    refine r_aload_n C 53 0 rfl dX11_about_52 rfl ?_
    refine r_getR C 56 dX11_about_53 flX11_35 kt_0 rfl rf_0_5 rfl ?_
    refine r_getI C 59 dX11_about_56 flX11_139 kt_7 rfl rfl ?_
    exact r_iret C Rr dX11_about_59 (fun _ => rfl) rfl
  · refine imp_ite (fun g_2 => ?_) (fun g_2 => ?_)
    · refine r_tsIn C 60 (nI 1) g_2 dX11_about_1 (by decide) (by decide) rfl (by decide) ?_
      refine r_aload_n C 61 0 rfl dX11_about_60 rfl ?_
      refine r_getR C 64 dX11_about_61 flX11_35 kt_0 rfl rf_0_5 rfl ?_
      refine r_getI C 67 dX11_about_64 flX11_144 kt_7 rfl rfl ?_
      exact r_iret C Rr dX11_about_67 (fun _ => rfl) rfl
    · refine imp_ite (fun g_3 => ?_) (fun g_3 => ?_)
      · refine r_tsIn C 68 (nI 2) g_3 dX11_about_1 (by decide) (by decide) rfl (by decide) ?_
        refine r_aload_n C 69 0 rfl dX11_about_68 rfl ?_
        refine r_getR C 72 dX11_about_69 flX11_45 kt_0 rfl rf_0_7 rfl ?_
        refine r_getI C 75 dX11_about_72 flX11_323 kt_55 rfl rfl ?_
        exact r_iret C Rr dX11_about_75 (fun _ => rfl) rfl
      · refine imp_ite (fun g_4 => ?_) (fun g_4 => ?_)
        · refine r_tsIn C 76 (nI 3) g_4 dX11_about_1 (by decide) (by decide) rfl (by decide) ?_
          refine r_aload_n C 77 0 rfl dX11_about_76 rfl ?_
          refine r_getR C 80 dX11_about_77 flX11_55 kt_0 rfl rf_0_9 rfl ?_
          refine r_getI C 83 dX11_about_80 flX11_320 kt_71 rfl rfl ?_
          exact r_iret C Rr dX11_about_83 (fun _ => rfl) rfl
        · refine imp_ite (fun g_5 => ?_) (fun g_5 => ?_)
          · refine r_tsIn C 84 (nI 4) g_5 dX11_about_1 (by decide) (by decide) rfl (by decide) ?_
            refine r_aload_n C 85 0 rfl dX11_about_84 rfl ?_
            refine r_getR C 88 dX11_about_85 flX11_55 kt_0 rfl rf_0_9 rfl ?_
            refine r_getI C 91 dX11_about_88 flX11_242 kt_71 rfl rfl ?_
            exact r_iret C Rr dX11_about_91 (fun _ => rfl) rfl
          · refine imp_ite (fun g_6 => ?_) (fun g_6 => ?_)
            · refine r_tsIn C 92 (nI 5) g_6 dX11_about_1 (by decide) (by decide) rfl (by decide) ?_
              refine r_aload_n C 93 0 rfl dX11_about_92 rfl ?_
              refine r_getI C 96 dX11_about_93 flX11_13 kt_0 rfl rfl ?_
              exact r_iret C Rr dX11_about_96 (fun _ => rfl) rfl
            · refine imp_ite (fun g_7 => ?_) (fun g_7 => ?_)
              · refine r_tsIn C 97 (nI 6) g_7 dX11_about_1 (by decide) (by decide) rfl (by decide) ?_
                refine r_aload_n C 98 0 rfl dX11_about_97 rfl ?_
                refine r_getR C 101 dX11_about_98 flX11_45 kt_0 rfl rf_0_7 rfl ?_
                refine r_getI C 104 dX11_about_101 flX11_326 kt_55 rfl rfl ?_
                exact r_iret C Rr dX11_about_104 (fun _ => rfl) rfl
              · refine imp_ite (fun g_8 => ?_) (fun g_8 => ?_)
                · refine r_tsIn C 105 (nI 7) g_8 dX11_about_1 (by decide) (by decide) rfl (by decide) ?_
                  refine r_aload_n C 106 0 rfl dX11_about_105 rfl ?_
                  refine r_getR C 109 dX11_about_106 flX11_35 kt_0 rfl rf_0_5 rfl ?_
                  refine r_getI C 112 dX11_about_109 flX11_329 kt_7 rfl rfl ?_
                  exact r_iret C Rr dX11_about_112 (fun _ => rfl) rfl
                · refine imp_ite (fun g_9 => ?_) (fun g_9 => ?_)
                  · refine r_tsIn C 113 (nI 8) g_9 dX11_about_1 (by decide) (by decide) rfl (by decide) ?_
                    refine r_aload_n C 114 0 rfl dX11_about_113 rfl ?_
                    refine r_getR C 117 dX11_about_114 flX11_35 kt_0 rfl rf_0_5 rfl ?_
                    refine r_getI C 120 dX11_about_117 flX11_332 kt_7 rfl rfl ?_
                    exact r_iret C Rr dX11_about_120 (fun _ => rfl) rfl
                  · refine r_tsOut C 121 dX11_about_1 (ts_out ?_) (by decide) ?_
                    · intro v h1 h2 e
                      have hv : v = 0 ∨ v = 1 ∨ v = 2 ∨ v = 3 ∨ v = 4 ∨ v = 5 ∨ v = 6 ∨ v = 7 ∨ v = 8 := by omega
                      rcases hv with rfl | rfl | rfl | rfl | rfl | rfl | rfl | rfl | rfl
                      · exact g_1 (e.trans (by decide))
                      · exact g_2 (e.trans (by decide))
                      · exact g_3 (e.trans (by decide))
                      · exact g_4 (e.trans (by decide))
                      · exact g_5 (e.trans (by decide))
                      · exact g_6 (e.trans (by decide))
                      · exact g_7 (e.trans (by decide))
                      · exact g_8 (e.trans (by decide))
                      · exact g_9 (e.trans (by decide))
                    · refine r_iconst C 122 (-1) (by decide) dX11_about_121 rfl ?_
                      exact r_iret C Rr dX11_about_122 (fun _ => rfl) rfl
set_option maxHeartbeats 4000000 in
theorem ok_f_X11_about (x1 : Int32)  (h : CH) : ∀ q, f_X11_about x1 h = some q → MG yX11_about cX11_about 2 (some .int) [] 1 (fun ad => [.ref (ad 0), .int x1]) h ((fun (x : Int32) (_ : Nat → Nat) => some (Value.int x)) q) ((fun (_ : Int32) => h) q) := mg_of RX11 (by decide) rfl (fun _ => Nat.le_of_ble_eq_true rfl) (fun κ C Rr => imp_f_X11_about C x1 h Rr)
set_option maxHeartbeats 4000000 in
set_option maxRecDepth 100000 in
theorem imp_f_X12_takeTape_L25 {κ : Kx (Unit × CH)} (C : Cx κ cX12_takeTape RX12 3 1 (40 * 1) [])     (Rr : Rt κ none (fun (_ : Unit × CH) (_ : Nat → Nat) => (none : Option Value)) (fun (q : (Unit × CH)) => q.2)) : ∀ (n : Nat) (x2 : Int32) (h : CH), Imp κ 25 [(0, .ref (kad κ 151)), (2, .int (x2))] [] h (f_X12_takeTape_L25 n x2 h) := by
  intro n
  induction n with
  | zero => intros; exact imp_none
  | succ n ih =>
    intro x2 h
    rw [f_X12_takeTape_L25]
    refine r_iload_n C 26 1 rfl dX12_takeTape_25 rfl ?_
    refine r_aload_n C 27 0 rfl dX12_takeTape_26 rfl ?_
    refine r_getI C 30 dX12_takeTape_27 flX12_143 kt_151 rfl rfl ?_
    refine r_icmp_ge C 33 51 dX12_takeTape_30 (by decide) rfl (fun c_5 => ?_) (fun c_5 => ?_)
    · refine r_aload_n C 34 0 rfl dX12_takeTape_33 rfl ?_
      refine r_getR C 37 dX12_takeTape_34 flX12_13 kt_151 rfl rf_151_1 rfl ?_
      refine r_iload_n C 38 1 rfl dX12_takeTape_37 rfl ?_
      refine r_aload_n C 39 0 rfl dX12_takeTape_38 rfl ?_
      refine r_getR C 42 dX12_takeTape_39 flX12_7 kt_151 rfl rf_151_0 rfl ?_
      refine r_iload_n C 43 1 rfl dX12_takeTape_42 rfl ?_
      refine r_bald C 44 dX12_takeTape_43 kt_152 rfl rfl (fun v_6 => ?_)
      refine r_bast C 45 dX12_takeTape_44 kt_153 rfl rfl (fun h_7 => ?_)
      refine r_iinc C 48 1 (nI 1) [(2, .int (x2 + (nI 1))), (0, .ref (kad κ 151))] dX12_takeTape_45 rfl (by decide) (by decide) rfl rfl ?_
      refine r_goto C 25 dX12_takeTape_48 (by decide) ?_
      exact imp_sub [(0, .ref (kad κ 151)), (2, .int (x2 + (nI 1)))] [1, 0] rfl (ih (x2 + (nI 1)) h_7)
    · refine r_aload_n C 52 0 rfl dX12_takeTape_51 rfl ?_
      refine r_iconst C 53 (nI 0) (by decide) dX12_takeTape_52 rfl ?_
      refine r_putI C 56 dX12_takeTape_53 flX12_260 kt_151 rfl rfl (fun h_8 => ?_)
      refine r_aload_n C 57 0 rfl dX12_takeTape_56 rfl ?_
      refine r_iconst C 58 (nI 0) (by decide) dX12_takeTape_57 rfl ?_
      refine r_putI C 61 dX12_takeTape_58 flX12_201 kt_151 rfl rfl (fun h_9 => ?_)
      exact r_vret C Rr dX12_takeTape_61 (fun _ => rfl) rfl
set_option maxHeartbeats 4000000 in
set_option maxRecDepth 100000 in
theorem imp_f_X12_takeTape {κ : Kx (Unit × CH)} (C : Cx κ cX12_takeTape RX12 3 1 (40 * 1) []) (x1 : Int32)  (h : CH) (Rr : Rt κ none (fun (_ : Unit × CH) (_ : Nat → Nat) => (none : Option Value)) (fun (q : (Unit × CH)) => q.2)) : Imp κ 0 [(0, .ref (kad κ 151)), (1, .int (x1))] [] h (f_X12_takeTape x1 h) := by
  unfold f_X12_takeTape
  refine r_aload_n C 1 0 rfl dX12_takeTape_0 rfl ?_
  refine r_iconst C 2 (nI 0) (by decide) dX12_takeTape_1 rfl ?_
  refine r_putI C 5 dX12_takeTape_2 flX12_146 kt_151 rfl rfl (fun h_1 => ?_)
  refine r_aload_n C 6 0 rfl dX12_takeTape_5 rfl ?_
  refine r_iconst C 7 (-1) (by decide) dX12_takeTape_6 rfl ?_
  refine r_putI C 10 dX12_takeTape_7 flX12_16 kt_151 rfl rfl (fun h_2 => ?_)
  refine r_aload_n C 11 0 rfl dX12_takeTape_10 rfl ?_
  refine r_iload_n C 12 1 rfl dX12_takeTape_11 rfl ?_
  refine r_putZ C 15 dX12_takeTape_12 flX12_197 kt_151 rfl rfl (fun h_3 => ?_)
  refine r_aload_n C 16 0 rfl dX12_takeTape_15 rfl ?_
  refine r_aload_n C 17 0 rfl dX12_takeTape_16 rfl ?_
  refine r_getI C 20 dX12_takeTape_17 flX12_260 kt_151 rfl rfl ?_
  refine r_putI C 23 dX12_takeTape_20 flX12_143 kt_151 rfl rfl (fun h_4 => ?_)
  refine r_iconst C 24 (nI 0) (by decide) dX12_takeTape_23 rfl ?_
  refine r_istore_n C 25 2 [(2, .int ((nI 0))), (0, .ref (kad κ 151)), (1, .int (x1))] dX12_takeTape_24 rfl (by decide) rfl rfl ?_
  refine imp_sub [(0, .ref (kad κ 151)), (2, .int ((nI 0)))] [1, 0] rfl ?_
  refine imp_f_X12_takeTape_L25 C Rr FU ((nI 0)) h_4
set_option maxHeartbeats 4000000 in
theorem ok_f_X12_takeTape (x1 : Int32)  (h : CH) : ∀ q, f_X12_takeTape x1 h = some q → MG yX12_takeTape cX12_takeTape 3 none [] 1 (fun ad => [.ref (ad 151), .int x1]) h ((fun (_ : Unit × CH) (_ : Nat → Nat) => (none : Option Value)) q) ((fun (q : (Unit × CH)) => q.2) q) := mg_of RX12 (by decide) rfl (fun _ => Nat.le_of_ble_eq_true rfl) (fun κ C Rr => imp_f_X12_takeTape C x1 h Rr)
set_option maxHeartbeats 4000000 in
set_option maxRecDepth 100000 in
theorem imp_f_X12_clearBank_L115 {κ : Kx (Unit × CH)} (C : Cx κ cX12_clearBank RX12 2 1 (40 * 1) [])     (Rr : Rt κ none (fun (_ : Unit × CH) (_ : Nat → Nat) => (none : Option Value)) (fun (q : (Unit × CH)) => q.2)) : ∀ (n : Nat) (x1 : Int32) (h : CH), Imp κ 115 [(0, .ref (kad κ 151)), (1, .int (x1))] [] h (f_X12_clearBank_L115 n x1 h) := by
  intro n
  induction n with
  | zero => intros; exact imp_none
  | succ n ih =>
    intro x1 h
    rw [f_X12_clearBank_L115]
    refine r_iload_n C 116 1 rfl dX12_clearBank_115 rfl ?_
    refine r_bipush C 118 (nI 16) (by decide) dX12_clearBank_116 rfl ?_
    refine r_aload_n C 119 0 rfl dX12_clearBank_118 rfl ?_
    refine r_getI C 122 dX12_clearBank_119 flX12_263 kt_151 rfl rfl ?_
    refine r_imul C 123 dX12_clearBank_122 rfl ?_
    refine r_bipush C 125 (nI 16) (by decide) dX12_clearBank_123 rfl ?_
    refine r_iadd C 126 dX12_clearBank_125 rfl ?_
    refine r_icmp_ge C 129 142 dX12_clearBank_126 (by decide) rfl (fun c_11 => ?_) (fun c_11 => ?_)
    · refine r_aload_n C 130 0 rfl dX12_clearBank_129 rfl ?_
      refine r_getR C 133 dX12_clearBank_130 flX12_42 kt_151 rfl rf_151_19 rfl ?_
      refine r_iload_n C 134 1 rfl dX12_clearBank_133 rfl ?_
      refine r_iconst C 135 (nI 0) (by decide) dX12_clearBank_134 rfl ?_
      refine r_iast C 136 dX12_clearBank_135 kt_161 rfl rfl (fun h_12 => ?_)
      refine r_iinc C 139 1 (nI 1) [(1, .int (x1 + (nI 1))), (0, .ref (kad κ 151))] dX12_clearBank_136 rfl (by decide) (by decide) rfl rfl ?_
      refine r_goto C 115 dX12_clearBank_139 (by decide) ?_
      exact imp_sub [(0, .ref (kad κ 151)), (1, .int (x1 + (nI 1)))] [1, 0] rfl (ih (x1 + (nI 1)) h_12)
    · exact r_vret C Rr dX12_clearBank_142 (fun _ => rfl) rfl
set_option maxHeartbeats 4000000 in
set_option maxRecDepth 100000 in
theorem imp_f_X12_clearBank_L68 {κ : Kx (Unit × CH)} (C : Cx κ cX12_clearBank RX12 2 1 (40 * 1) [])     (Rr : Rt κ none (fun (_ : Unit × CH) (_ : Nat → Nat) => (none : Option Value)) (fun (q : (Unit × CH)) => q.2)) : ∀ (n : Nat) (x1 : Int32) (h : CH), Imp κ 68 [(0, .ref (kad κ 151)), (1, .int (x1))] [] h (f_X12_clearBank_L68 n x1 h) := by
  intro n
  induction n with
  | zero => intros; exact imp_none
  | succ n ih =>
    intro x1 h
    rw [f_X12_clearBank_L68]
    refine r_iload_n C 69 1 rfl dX12_clearBank_68 rfl ?_
    refine r_iconst C 70 (nI 4) (by decide) dX12_clearBank_69 rfl ?_
    refine r_aload_n C 71 0 rfl dX12_clearBank_70 rfl ?_
    refine r_getI C 74 dX12_clearBank_71 flX12_263 kt_151 rfl rfl ?_
    refine r_imul C 75 dX12_clearBank_74 rfl ?_
    refine r_iconst C 76 (nI 4) (by decide) dX12_clearBank_75 rfl ?_
    refine r_iadd C 77 dX12_clearBank_76 rfl ?_
    refine r_icmp_ge C 80 107 dX12_clearBank_77 (by decide) rfl (fun c_7 => ?_) (fun c_7 => ?_)
    · refine r_aload_n C 81 0 rfl dX12_clearBank_80 rfl ?_
      refine r_getR C 84 dX12_clearBank_81 flX12_45 kt_151 rfl rf_151_20 rfl ?_
      refine r_iload_n C 85 1 rfl dX12_clearBank_84 rfl ?_
      refine r_iconst C 86 (nI 0) (by decide) dX12_clearBank_85 rfl ?_
      refine r_iast C 87 dX12_clearBank_86 kt_162 rfl rfl (fun h_8 => ?_)
      refine r_aload_n C 88 0 rfl dX12_clearBank_87 rfl ?_
      refine r_getR C 91 dX12_clearBank_88 flX12_48 kt_151 rfl rf_151_21 rfl ?_
      refine r_iload_n C 92 1 rfl dX12_clearBank_91 rfl ?_
      refine r_iconst C 93 (nI 0) (by decide) dX12_clearBank_92 rfl ?_
      refine r_iast C 94 dX12_clearBank_93 kt_163 rfl rfl (fun h_9 => ?_)
      refine r_aload_n C 95 0 rfl dX12_clearBank_94 rfl ?_
      refine r_getR C 98 dX12_clearBank_95 flX12_58 kt_151 rfl rf_151_24 rfl ?_
      refine r_iload_n C 99 1 rfl dX12_clearBank_98 rfl ?_
      refine r_iconst C 100 (nI 0) (by decide) dX12_clearBank_99 rfl ?_
      refine r_zast C 101 dX12_clearBank_100 kt_166 rfl rfl (fun h_10 => ?_)
      refine r_iinc C 104 1 (nI 1) [(1, .int (x1 + (nI 1))), (0, .ref (kad κ 151))] dX12_clearBank_101 rfl (by decide) (by decide) rfl rfl ?_
      refine r_goto C 68 dX12_clearBank_104 (by decide) ?_
      exact imp_sub [(0, .ref (kad κ 151)), (1, .int (x1 + (nI 1)))] [1, 0] rfl (ih (x1 + (nI 1)) h_10)
    · refine r_bipush C 109 (nI 16) (by decide) dX12_clearBank_107 rfl ?_
      refine r_aload_n C 110 0 rfl dX12_clearBank_109 rfl ?_
      refine r_getI C 113 dX12_clearBank_110 flX12_263 kt_151 rfl rfl ?_
      refine r_imul C 114 dX12_clearBank_113 rfl ?_
      refine r_istore_n C 115 1 [(1, .int (((nI 16)) * (h.1 151 27))), (0, .ref (kad κ 151))] dX12_clearBank_114 rfl (by decide) rfl rfl ?_
      refine imp_sub [(0, .ref (kad κ 151)), (1, .int (((nI 16)) * (h.1 151 27)))] [1, 0] rfl ?_
      refine imp_f_X12_clearBank_L115 C Rr FU (((nI 16)) * (h.1 151 27)) h
set_option maxHeartbeats 4000000 in
set_option maxRecDepth 100000 in
theorem imp_f_X12_clearBank {κ : Kx (Unit × CH)} (C : Cx κ cX12_clearBank RX12 2 1 (40 * 1) [])   (h : CH) (Rr : Rt κ none (fun (_ : Unit × CH) (_ : Nat → Nat) => (none : Option Value)) (fun (q : (Unit × CH)) => q.2)) : Imp κ 0 [(0, .ref (kad κ 151))] [] h (f_X12_clearBank h) := by
  unfold f_X12_clearBank
  refine r_aload_n C 1 0 rfl dX12_clearBank_0 rfl ?_
  refine r_getR C 4 dX12_clearBank_1 flX12_20 kt_151 rfl rf_151_12 rfl ?_
  refine r_aload_n C 5 0 rfl dX12_clearBank_4 rfl ?_
  refine r_getI C 8 dX12_clearBank_5 flX12_263 kt_151 rfl rfl ?_
  refine r_iconst C 9 (nI 5) (by decide) dX12_clearBank_8 rfl ?_
  refine r_iast C 10 dX12_clearBank_9 kt_154 rfl rfl (fun h_1 => ?_)
  refine r_aload_n C 11 0 rfl dX12_clearBank_10 rfl ?_
  refine r_getR C 14 dX12_clearBank_11 flX12_24 kt_151 rfl rf_151_13 rfl ?_
  refine r_aload_n C 15 0 rfl dX12_clearBank_14 rfl ?_
  refine r_getI C 18 dX12_clearBank_15 flX12_263 kt_151 rfl rfl ?_
  refine r_iconst C 19 (nI 0) (by decide) dX12_clearBank_18 rfl ?_
  refine r_iast C 20 dX12_clearBank_19 kt_155 rfl rfl (fun h_2 => ?_)
  refine r_aload_n C 21 0 rfl dX12_clearBank_20 rfl ?_
  refine r_getR C 24 dX12_clearBank_21 flX12_27 kt_151 rfl rf_151_14 rfl ?_
  refine r_aload_n C 25 0 rfl dX12_clearBank_24 rfl ?_
  refine r_getI C 28 dX12_clearBank_25 flX12_263 kt_151 rfl rfl ?_
  refine r_iconst C 29 (nI 0) (by decide) dX12_clearBank_28 rfl ?_
  refine r_iast C 30 dX12_clearBank_29 kt_156 rfl rfl (fun h_3 => ?_)
  refine r_aload_n C 31 0 rfl dX12_clearBank_30 rfl ?_
  refine r_getR C 34 dX12_clearBank_31 flX12_30 kt_151 rfl rf_151_15 rfl ?_
  refine r_aload_n C 35 0 rfl dX12_clearBank_34 rfl ?_
  refine r_getI C 38 dX12_clearBank_35 flX12_263 kt_151 rfl rfl ?_
  refine r_bipush C 40 (nI 20) (by decide) dX12_clearBank_38 rfl ?_
  refine r_iast C 41 dX12_clearBank_40 kt_157 rfl rfl (fun h_4 => ?_)
  refine r_aload_n C 42 0 rfl dX12_clearBank_41 rfl ?_
  refine r_getR C 45 dX12_clearBank_42 flX12_51 kt_151 rfl rf_151_22 rfl ?_
  refine r_aload_n C 46 0 rfl dX12_clearBank_45 rfl ?_
  refine r_getI C 49 dX12_clearBank_46 flX12_263 kt_151 rfl rfl ?_
  refine r_iconst C 50 (nI 0) (by decide) dX12_clearBank_49 rfl ?_
  refine r_zast C 51 dX12_clearBank_50 kt_164 rfl rfl (fun h_5 => ?_)
  refine r_aload_n C 52 0 rfl dX12_clearBank_51 rfl ?_
  refine r_getR C 55 dX12_clearBank_52 flX12_55 kt_151 rfl rf_151_23 rfl ?_
  refine r_aload_n C 56 0 rfl dX12_clearBank_55 rfl ?_
  refine r_getI C 59 dX12_clearBank_56 flX12_263 kt_151 rfl rfl ?_
  refine r_iconst C 60 (nI 0) (by decide) dX12_clearBank_59 rfl ?_
  refine r_zast C 61 dX12_clearBank_60 kt_165 rfl rfl (fun h_6 => ?_)
  refine r_iconst C 62 (nI 4) (by decide) dX12_clearBank_61 rfl ?_
  refine r_aload_n C 63 0 rfl dX12_clearBank_62 rfl ?_
  refine r_getI C 66 dX12_clearBank_63 flX12_263 kt_151 rfl rfl ?_
  refine r_imul C 67 dX12_clearBank_66 rfl ?_
  refine r_istore_n C 68 1 [(1, .int (((nI 4)) * (h_6.1 151 27))), (0, .ref (kad κ 151))] dX12_clearBank_67 rfl (by decide) rfl rfl ?_
  refine imp_sub [(0, .ref (kad κ 151)), (1, .int (((nI 4)) * (h_6.1 151 27)))] [1, 0] rfl ?_
  refine imp_f_X12_clearBank_L68 C Rr FU (((nI 4)) * (h_6.1 151 27)) h_6
set_option maxHeartbeats 4000000 in
theorem ok_f_X12_clearBank   (h : CH) : ∀ q, f_X12_clearBank h = some q → MG yX12_clearBank cX12_clearBank 2 none [] 1 (fun ad => [.ref (ad 151)]) h ((fun (_ : Unit × CH) (_ : Nat → Nat) => (none : Option Value)) q) ((fun (q : (Unit × CH)) => q.2) q) := mg_of RX12 (by decide) rfl (fun _ => Nat.le_of_ble_eq_true rfl) (fun κ C Rr => imp_f_X12_clearBank C  h Rr)
set_option maxHeartbeats 4000000 in
set_option maxRecDepth 100000 in
theorem imp_f_X12_sign {κ : Kx Int32} (C : Cx κ cX12_sign RX12 2 1 (40 * 1) []) (x1 : Int32)  (h : CH) (Rr : Rt κ (some .int) (fun (x : Int32) (_ : Nat → Nat) => some (Value.int x)) (fun (_ : Int32) => h)) : Imp κ 0 [(0, .ref (kad κ 151)), (1, .int (x1))] [] h (f_X12_sign x1 h) := by
  unfold f_X12_sign
  refine r_iload_n C 1 1 rfl dX12_sign_0 rfl ?_
  refine r_aload_n C 2 0 rfl dX12_sign_1 rfl ?_
  refine r_getI C 5 dX12_sign_2 flX12_143 kt_151 rfl rfl ?_
  refine r_icmp_ge C 8 21 dX12_sign_5 (by decide) rfl (fun c_1 => ?_) (fun c_1 => ?_)
  · refine r_aload_n C 9 0 rfl dX12_sign_8 rfl ?_
    refine r_getR C 12 dX12_sign_9 flX12_13 kt_151 rfl rf_151_1 rfl ?_
    refine r_iload_n C 13 1 rfl dX12_sign_12 rfl ?_
    refine r_bald C 14 dX12_sign_13 kt_153 rfl rfl (fun v_2 => ?_)
    refine r_sipush C 17 (nI 255) (by decide) dX12_sign_14 rfl ?_
    refine r_iand C 18 dX12_sign_17 rfl ?_
    refine r_goto C 22 dX12_sign_18 (by decide) ?_
    exact r_iret C Rr dX12_sign_22 (fun _ => rfl) rfl
  · refine r_iconst C 22 (nI 0) (by decide) dX12_sign_21 rfl ?_
    exact r_iret C Rr dX12_sign_22 (fun _ => rfl) rfl
set_option maxHeartbeats 4000000 in
theorem ok_f_X12_sign (x1 : Int32)  (h : CH) : ∀ q, f_X12_sign x1 h = some q → MG yX12_sign cX12_sign 2 (some .int) [] 1 (fun ad => [.ref (ad 151), .int x1]) h ((fun (x : Int32) (_ : Nat → Nat) => some (Value.int x)) q) ((fun (_ : Int32) => h) q) := mg_of RX12 (by decide) rfl (fun _ => Nat.le_of_ble_eq_true rfl) (fun κ C Rr => imp_f_X12_sign C x1 h Rr)
set_option maxHeartbeats 4000000 in
set_option maxRecDepth 100000 in
theorem imp_f_X12_isLetter {κ : Kx Int32} (C : Cx κ cX12_isLetter RX12 1 1 (40 * 1) []) (x0 : Int32)  (h : CH) (Rr : Rt κ (some .boolean) (fun (x : Int32) (_ : Nat → Nat) => some (Value.int x)) (fun (_ : Int32) => h)) : Imp κ 0 [(0, .int (x0))] [] h (f_X12_isLetter x0 h) := by
  unfold f_X12_isLetter
  refine r_iload_n C 1 0 rfl dX12_isLetter_0 rfl ?_
  refine r_bipush C 3 (nI 97) (by decide) dX12_isLetter_1 rfl ?_
  refine r_icmp_lt C 6 16 dX12_isLetter_3 (by decide) rfl (fun c_1 => ?_) (fun c_1 => ?_)
  · refine r_iconst C 17 (nI 0) (by decide) dX12_isLetter_16 rfl ?_
    exact r_zret C Rr (by decide) dX12_isLetter_17 (fun _ => rfl) rfl
  · refine r_iload_n C 7 0 rfl dX12_isLetter_6 rfl ?_
    refine r_bipush C 9 (nI 122) (by decide) dX12_isLetter_7 rfl ?_
    refine r_icmp_gt C 12 16 dX12_isLetter_9 (by decide) rfl (fun c_2 => ?_) (fun c_2 => ?_)
    · refine r_iconst C 17 (nI 0) (by decide) dX12_isLetter_16 rfl ?_
      exact r_zret C Rr (by decide) dX12_isLetter_17 (fun _ => rfl) rfl
    · refine r_iconst C 13 (nI 1) (by decide) dX12_isLetter_12 rfl ?_
      refine r_goto C 17 dX12_isLetter_13 (by decide) ?_
      exact r_zret C Rr (by decide) dX12_isLetter_17 (fun _ => rfl) rfl
set_option maxHeartbeats 4000000 in
theorem ok_f_X12_isLetter (x0 : Int32)  (h : CH) : ∀ q, f_X12_isLetter x0 h = some q → MG yX12_isLetter cX12_isLetter 1 (some .boolean) [] 1 (fun ad => [.int x0]) h ((fun (x : Int32) (_ : Nat → Nat) => some (Value.int x)) q) ((fun (_ : Int32) => h) q) := mg_of RX12 (by decide) rfl (fun _ => Nat.le_of_ble_eq_true rfl) (fun κ C Rr => imp_f_X12_isLetter C x0 h Rr)
set_option maxHeartbeats 4000000 in
set_option maxRecDepth 100000 in
theorem imp_f_X12_isDigit {κ : Kx Int32} (C : Cx κ cX12_isDigit RX12 1 1 (40 * 1) []) (x0 : Int32)  (h : CH) (Rr : Rt κ (some .boolean) (fun (x : Int32) (_ : Nat → Nat) => some (Value.int x)) (fun (_ : Int32) => h)) : Imp κ 0 [(0, .int (x0))] [] h (f_X12_isDigit x0 h) := by
  unfold f_X12_isDigit
  refine r_iload_n C 1 0 rfl dX12_isDigit_0 rfl ?_
  refine r_bipush C 3 (nI 48) (by decide) dX12_isDigit_1 rfl ?_
  refine r_icmp_lt C 6 16 dX12_isDigit_3 (by decide) rfl (fun c_1 => ?_) (fun c_1 => ?_)
  · refine r_iconst C 17 (nI 0) (by decide) dX12_isDigit_16 rfl ?_
    exact r_zret C Rr (by decide) dX12_isDigit_17 (fun _ => rfl) rfl
  · refine r_iload_n C 7 0 rfl dX12_isDigit_6 rfl ?_
    refine r_bipush C 9 (nI 57) (by decide) dX12_isDigit_7 rfl ?_
    refine r_icmp_gt C 12 16 dX12_isDigit_9 (by decide) rfl (fun c_2 => ?_) (fun c_2 => ?_)
    · refine r_iconst C 17 (nI 0) (by decide) dX12_isDigit_16 rfl ?_
      exact r_zret C Rr (by decide) dX12_isDigit_17 (fun _ => rfl) rfl
    · refine r_iconst C 13 (nI 1) (by decide) dX12_isDigit_12 rfl ?_
      refine r_goto C 17 dX12_isDigit_13 (by decide) ?_
      exact r_zret C Rr (by decide) dX12_isDigit_17 (fun _ => rfl) rfl
set_option maxHeartbeats 4000000 in
theorem ok_f_X12_isDigit (x0 : Int32)  (h : CH) : ∀ q, f_X12_isDigit x0 h = some q → MG yX12_isDigit cX12_isDigit 1 (some .boolean) [] 1 (fun ad => [.int x0]) h ((fun (x : Int32) (_ : Nat → Nat) => some (Value.int x)) q) ((fun (_ : Int32) => h) q) := mg_of RX12 (by decide) rfl (fun _ => Nat.le_of_ble_eq_true rfl) (fun κ C Rr => imp_f_X12_isDigit C x0 h Rr)
set_option maxHeartbeats 4000000 in
set_option maxRecDepth 100000 in
theorem imp_f_X12_isSign {κ : Kx Int32} (C : Cx κ cX12_isSign RX12 2 1 (40 * 1) []) (x1 : Int32)  (h : CH) (Rr : Rt κ (some .boolean) (fun (x : Int32) (_ : Nat → Nat) => some (Value.int x)) (fun (_ : Int32) => h)) : Imp κ 0 [(0, .ref (kad κ 151)), (1, .int (x1))] [] h (f_X12_isSign x1 h) := by
  unfold f_X12_isSign
  refine r_iload_n C 1 1 rfl dX12_isSign_0 rfl ?_
  refine r_bipush C 3 (nI 59) (by decide) dX12_isSign_1 rfl ?_
  refine imp_jn (fun (j_1 : Option Int32) =>  Imp κ 61 [] [] h (j_1)) ?_ ?_
  · refine r_iconst C 62 (nI 1) (by decide) dX12_isSign_61 rfl ?_
    refine r_goto C 66 dX12_isSign_62 (by decide) ?_
    exact r_zret C Rr (by decide) dX12_isSign_66 (fun _ => rfl) rfl
  · intro j_1 hj_1
    refine r_icmp_eq C 6 61 dX12_isSign_3 (by decide) rfl (fun c_2 => ?_) (fun c_2 => ?_)
    · exact imp_sub [] [] rfl (hj_1)
    · refine r_aload_n C 7 0 rfl dX12_isSign_6 rfl ?_
      refine r_getI C 10 dX12_isSign_7 flX12_197 kt_151 rfl rfl ?_
      refine r_if_eq C 13 65 dX12_isSign_10 (by decide) rfl (fun c_3 => ?_) (fun c_3 => ?_)
      · refine r_iconst C 66 (nI 0) (by decide) dX12_isSign_65 rfl ?_
        exact r_zret C Rr (by decide) dX12_isSign_66 (fun _ => rfl) rfl
      · refine r_iload_n C 14 1 rfl dX12_isSign_13 rfl ?_
        refine r_bipush C 16 (nI 40) (by decide) dX12_isSign_14 rfl ?_
        refine r_icmp_eq C 19 61 dX12_isSign_16 (by decide) rfl (fun c_4 => ?_) (fun c_4 => ?_)
        · exact imp_sub [] [] rfl (hj_1)
        · refine r_iload_n C 20 1 rfl dX12_isSign_19 rfl ?_
          refine r_bipush C 22 (nI 41) (by decide) dX12_isSign_20 rfl ?_
          refine r_icmp_eq C 25 61 dX12_isSign_22 (by decide) rfl (fun c_5 => ?_) (fun c_5 => ?_)
          · exact imp_sub [] [] rfl (hj_1)
          · refine r_iload_n C 26 1 rfl dX12_isSign_25 rfl ?_
            refine r_bipush C 28 (nI 60) (by decide) dX12_isSign_26 rfl ?_
            refine r_icmp_eq C 31 61 dX12_isSign_28 (by decide) rfl (fun c_6 => ?_) (fun c_6 => ?_)
            · exact imp_sub [] [] rfl (hj_1)
            · refine r_iload_n C 32 1 rfl dX12_isSign_31 rfl ?_
              refine r_bipush C 34 (nI 62) (by decide) dX12_isSign_32 rfl ?_
              refine r_icmp_eq C 37 61 dX12_isSign_34 (by decide) rfl (fun c_7 => ?_) (fun c_7 => ?_)
              · exact imp_sub [] [] rfl (hj_1)
              · refine r_iload_n C 38 1 rfl dX12_isSign_37 rfl ?_
                refine r_bipush C 40 (nI 61) (by decide) dX12_isSign_38 rfl ?_
                refine r_icmp_eq C 43 61 dX12_isSign_40 (by decide) rfl (fun c_8 => ?_) (fun c_8 => ?_)
                · exact imp_sub [] [] rfl (hj_1)
                · refine r_iload_n C 44 1 rfl dX12_isSign_43 rfl ?_
                  refine r_bipush C 46 (nI 43) (by decide) dX12_isSign_44 rfl ?_
                  refine r_icmp_eq C 49 61 dX12_isSign_46 (by decide) rfl (fun c_9 => ?_) (fun c_9 => ?_)
                  · exact imp_sub [] [] rfl (hj_1)
                  · refine r_iload_n C 50 1 rfl dX12_isSign_49 rfl ?_
                    refine r_bipush C 52 (nI 45) (by decide) dX12_isSign_50 rfl ?_
                    refine r_icmp_eq C 55 61 dX12_isSign_52 (by decide) rfl (fun c_10 => ?_) (fun c_10 => ?_)
                    · exact imp_sub [] [] rfl (hj_1)
                    · refine r_iload_n C 56 1 rfl dX12_isSign_55 rfl ?_
                      refine r_bipush C 58 (nI 42) (by decide) dX12_isSign_56 rfl ?_
                      refine r_icmp_ne C 61 65 dX12_isSign_58 (by decide) rfl (fun c_11 => ?_) (fun c_11 => ?_)
                      · exact imp_sub [] [] rfl (hj_1)
                      · refine r_iconst C 66 (nI 0) (by decide) dX12_isSign_65 rfl ?_
                        exact r_zret C Rr (by decide) dX12_isSign_66 (fun _ => rfl) rfl
set_option maxHeartbeats 4000000 in
theorem ok_f_X12_isSign (x1 : Int32)  (h : CH) : ∀ q, f_X12_isSign x1 h = some q → MG yX12_isSign cX12_isSign 2 (some .boolean) [] 1 (fun ad => [.ref (ad 151), .int x1]) h ((fun (x : Int32) (_ : Nat → Nat) => some (Value.int x)) q) ((fun (_ : Int32) => h) q) := mg_of RX12 (by decide) rfl (fun _ => Nat.le_of_ble_eq_true rfl) (fun κ C Rr => imp_f_X12_isSign C x1 h Rr)
set_option maxHeartbeats 4000000 in
set_option maxRecDepth 100000 in
theorem imp_f_X12_isKept {κ : Kx Int32} (C : Cx κ cX12_isKept RX12 3 1 (40 * 1) []) (x0 : Int64)  (h : CH) (Rr : Rt κ (some .boolean) (fun (x : Int32) (_ : Nat → Nat) => some (Value.int x)) (fun (_ : Int32) => h)) : Imp κ 0 [(0, .long (x0))] [] h (f_X12_isKept x0 h) := by
  unfold f_X12_isKept
  refine r_lload_n C 1 0 rfl dX12_isKept_0 rfl ?_
  refine r_ldc2 C 4 lcX12_149 dX12_isKept_1 rfl ?_
  refine r_lcmp C 5 dX12_isKept_4 rfl ?_
  refine imp_jn (fun (j_2 : Int32 → Option Int32) => ∀ (s_1 : Int32), Imp κ 101 [(0, .long (x0))] [.int (s_1)] h (j_2 s_1)) ?_ ?_
  · intro s_1
    refine r_istore_n C 102 2 [(2, .int (s_1)), (0, .long (x0))] dX12_isKept_101 rfl (by decide) rfl rfl ?_
    refine r_iload_n C 103 0 rfl dX12_isKept_102 rfl ?_
    refine imp_jn (fun (j_3 : Option Int32) =>  Imp κ 202 [] [] h (j_3)) ?_ ?_
    · refine r_iconst C 203 (nI 1) (by decide) dX12_isKept_202 rfl ?_
      refine r_goto C 207 dX12_isKept_203 (by decide) ?_
      exact r_zret C Rr (by decide) dX12_isKept_207 (fun _ => rfl) rfl
    · intro j_3 hj_3
      refine r_if_ne C 106 202 dX12_isKept_103 (by decide) rfl (fun c_4 => ?_) (fun c_4 => ?_)
      · refine r_lload_n C 107 1 rfl dX12_isKept_106 rfl ?_
        refine r_ldc2 C 110 lcX12_173 dX12_isKept_107 rfl ?_
        refine r_lcmp C 111 dX12_isKept_110 rfl ?_
        refine r_if_eq C 114 202 dX12_isKept_111 (by decide) rfl (fun c_5 => ?_) (fun c_5 => ?_)
        · exact imp_sub [] [] rfl (hj_3)
        · refine r_lload_n C 115 1 rfl dX12_isKept_114 rfl ?_
          refine r_ldc2 C 118 lcX12_175 dX12_isKept_115 rfl ?_
          refine r_lcmp C 119 dX12_isKept_118 rfl ?_
          refine r_if_eq C 122 202 dX12_isKept_119 (by decide) rfl (fun c_6 => ?_) (fun c_6 => ?_)
          · exact imp_sub [] [] rfl (hj_3)
          · refine r_lload_n C 123 1 rfl dX12_isKept_122 rfl ?_
            refine r_ldc2 C 126 lcX12_177 dX12_isKept_123 rfl ?_
            refine r_lcmp C 127 dX12_isKept_126 rfl ?_
            refine r_if_eq C 130 202 dX12_isKept_127 (by decide) rfl (fun c_7 => ?_) (fun c_7 => ?_)
            · exact imp_sub [] [] rfl (hj_3)
            · refine r_lload_n C 131 1 rfl dX12_isKept_130 rfl ?_
              refine r_ldc2 C 134 lcX12_179 dX12_isKept_131 rfl ?_
              refine r_lcmp C 135 dX12_isKept_134 rfl ?_
              refine r_if_eq C 138 202 dX12_isKept_135 (by decide) rfl (fun c_8 => ?_) (fun c_8 => ?_)
              · exact imp_sub [] [] rfl (hj_3)
              · refine r_lload_n C 139 1 rfl dX12_isKept_138 rfl ?_
                refine r_ldc2 C 142 lcX12_181 dX12_isKept_139 rfl ?_
                refine r_lcmp C 143 dX12_isKept_142 rfl ?_
                refine r_if_eq C 146 202 dX12_isKept_143 (by decide) rfl (fun c_9 => ?_) (fun c_9 => ?_)
                · exact imp_sub [] [] rfl (hj_3)
                · refine r_lload_n C 147 1 rfl dX12_isKept_146 rfl ?_
                  refine r_ldc2 C 150 lcX12_183 dX12_isKept_147 rfl ?_
                  refine r_lcmp C 151 dX12_isKept_150 rfl ?_
                  refine r_if_eq C 154 202 dX12_isKept_151 (by decide) rfl (fun c_10 => ?_) (fun c_10 => ?_)
                  · exact imp_sub [] [] rfl (hj_3)
                  · refine r_lload_n C 155 1 rfl dX12_isKept_154 rfl ?_
                    refine r_ldc2 C 158 lcX12_185 dX12_isKept_155 rfl ?_
                    refine r_lcmp C 159 dX12_isKept_158 rfl ?_
                    refine r_if_eq C 162 202 dX12_isKept_159 (by decide) rfl (fun c_11 => ?_) (fun c_11 => ?_)
                    · exact imp_sub [] [] rfl (hj_3)
                    · refine r_lload_n C 163 1 rfl dX12_isKept_162 rfl ?_
                      refine r_ldc2 C 166 lcX12_187 dX12_isKept_163 rfl ?_
                      refine r_lcmp C 167 dX12_isKept_166 rfl ?_
                      refine r_if_eq C 170 202 dX12_isKept_167 (by decide) rfl (fun c_12 => ?_) (fun c_12 => ?_)
                      · exact imp_sub [] [] rfl (hj_3)
                      · refine r_lload_n C 171 1 rfl dX12_isKept_170 rfl ?_
                        refine r_ldc2 C 174 lcX12_189 dX12_isKept_171 rfl ?_
                        refine r_lcmp C 175 dX12_isKept_174 rfl ?_
                        refine r_if_eq C 178 202 dX12_isKept_175 (by decide) rfl (fun c_13 => ?_) (fun c_13 => ?_)
                        · exact imp_sub [] [] rfl (hj_3)
                        · refine r_lload_n C 179 1 rfl dX12_isKept_178 rfl ?_
                          refine r_ldc2 C 182 lcX12_191 dX12_isKept_179 rfl ?_
                          refine r_lcmp C 183 dX12_isKept_182 rfl ?_
                          refine r_if_eq C 186 202 dX12_isKept_183 (by decide) rfl (fun c_14 => ?_) (fun c_14 => ?_)
                          · exact imp_sub [] [] rfl (hj_3)
                          · refine r_lload_n C 187 1 rfl dX12_isKept_186 rfl ?_
                            refine r_ldc2 C 190 lcX12_193 dX12_isKept_187 rfl ?_
                            refine r_lcmp C 191 dX12_isKept_190 rfl ?_
                            refine r_if_eq C 194 202 dX12_isKept_191 (by decide) rfl (fun c_15 => ?_) (fun c_15 => ?_)
                            · exact imp_sub [] [] rfl (hj_3)
                            · refine r_lload_n C 195 1 rfl dX12_isKept_194 rfl ?_
                              refine r_ldc2 C 198 lcX12_195 dX12_isKept_195 rfl ?_
                              refine r_lcmp C 199 dX12_isKept_198 rfl ?_
                              refine r_if_ne C 202 206 dX12_isKept_199 (by decide) rfl (fun c_16 => ?_) (fun c_16 => ?_)
                              · exact imp_sub [] [] rfl (hj_3)
                              · refine r_iconst C 207 (nI 0) (by decide) dX12_isKept_206 rfl ?_
                                exact r_zret C Rr (by decide) dX12_isKept_207 (fun _ => rfl) rfl
      · exact imp_sub [] [] rfl (hj_3)
  · intro j_2 hj_2
    refine imp_jn (fun (j_17 : Option Int32) =>  Imp κ 96 [(0, .long (x0))] [] h (j_17)) ?_ ?_
    · refine r_iconst C 97 (nI 1) (by decide) dX12_isKept_96 rfl ?_
      refine r_goto C 101 dX12_isKept_97 (by decide) ?_
      exact imp_sub [(0, .long (x0))] [0] rfl (hj_2 ((nI 1)))
    · intro j_17 hj_17
      refine r_if_eq C 8 96 dX12_isKept_5 (by decide) rfl (fun c_18 => ?_) (fun c_18 => ?_)
      · exact imp_sub [(0, .long (x0))] [0] rfl (hj_17)
      · refine r_lload_n C 9 0 rfl dX12_isKept_8 rfl ?_
        refine r_ldc2 C 12 lcX12_151 dX12_isKept_9 rfl ?_
        refine r_lcmp C 13 dX12_isKept_12 rfl ?_
        refine r_if_eq C 16 96 dX12_isKept_13 (by decide) rfl (fun c_19 => ?_) (fun c_19 => ?_)
        · exact imp_sub [(0, .long (x0))] [0] rfl (hj_17)
        · refine r_lload_n C 17 0 rfl dX12_isKept_16 rfl ?_
          refine r_ldc2 C 20 lcX12_153 dX12_isKept_17 rfl ?_
          refine r_lcmp C 21 dX12_isKept_20 rfl ?_
          refine r_if_eq C 24 96 dX12_isKept_21 (by decide) rfl (fun c_20 => ?_) (fun c_20 => ?_)
          · exact imp_sub [(0, .long (x0))] [0] rfl (hj_17)
          · refine r_lload_n C 25 0 rfl dX12_isKept_24 rfl ?_
            refine r_ldc2 C 28 lcX12_155 dX12_isKept_25 rfl ?_
            refine r_lcmp C 29 dX12_isKept_28 rfl ?_
            refine r_if_eq C 32 96 dX12_isKept_29 (by decide) rfl (fun c_21 => ?_) (fun c_21 => ?_)
            · exact imp_sub [(0, .long (x0))] [0] rfl (hj_17)
            · refine r_lload_n C 33 0 rfl dX12_isKept_32 rfl ?_
              refine r_ldc2 C 36 lcX12_157 dX12_isKept_33 rfl ?_
              refine r_lcmp C 37 dX12_isKept_36 rfl ?_
              refine r_if_eq C 40 96 dX12_isKept_37 (by decide) rfl (fun c_22 => ?_) (fun c_22 => ?_)
              · exact imp_sub [(0, .long (x0))] [0] rfl (hj_17)
              · refine r_lload_n C 41 0 rfl dX12_isKept_40 rfl ?_
                refine r_ldc2 C 44 lcX12_159 dX12_isKept_41 rfl ?_
                refine r_lcmp C 45 dX12_isKept_44 rfl ?_
                refine r_if_eq C 48 96 dX12_isKept_45 (by decide) rfl (fun c_23 => ?_) (fun c_23 => ?_)
                · exact imp_sub [(0, .long (x0))] [0] rfl (hj_17)
                · refine r_lload_n C 49 0 rfl dX12_isKept_48 rfl ?_
                  refine r_ldc2 C 52 lcX12_161 dX12_isKept_49 rfl ?_
                  refine r_lcmp C 53 dX12_isKept_52 rfl ?_
                  refine r_if_eq C 56 96 dX12_isKept_53 (by decide) rfl (fun c_24 => ?_) (fun c_24 => ?_)
                  · exact imp_sub [(0, .long (x0))] [0] rfl (hj_17)
                  · refine r_lload_n C 57 0 rfl dX12_isKept_56 rfl ?_
                    refine r_ldc2 C 60 lcX12_163 dX12_isKept_57 rfl ?_
                    refine r_lcmp C 61 dX12_isKept_60 rfl ?_
                    refine r_if_eq C 64 96 dX12_isKept_61 (by decide) rfl (fun c_25 => ?_) (fun c_25 => ?_)
                    · exact imp_sub [(0, .long (x0))] [0] rfl (hj_17)
                    · refine r_lload_n C 65 0 rfl dX12_isKept_64 rfl ?_
                      refine r_ldc2 C 68 lcX12_165 dX12_isKept_65 rfl ?_
                      refine r_lcmp C 69 dX12_isKept_68 rfl ?_
                      refine r_if_eq C 72 96 dX12_isKept_69 (by decide) rfl (fun c_26 => ?_) (fun c_26 => ?_)
                      · exact imp_sub [(0, .long (x0))] [0] rfl (hj_17)
                      · refine r_lload_n C 73 0 rfl dX12_isKept_72 rfl ?_
                        refine r_ldc2 C 76 lcX12_167 dX12_isKept_73 rfl ?_
                        refine r_lcmp C 77 dX12_isKept_76 rfl ?_
                        refine r_if_eq C 80 96 dX12_isKept_77 (by decide) rfl (fun c_27 => ?_) (fun c_27 => ?_)
                        · exact imp_sub [(0, .long (x0))] [0] rfl (hj_17)
                        · refine r_lload_n C 81 0 rfl dX12_isKept_80 rfl ?_
                          refine r_ldc2 C 84 lcX12_169 dX12_isKept_81 rfl ?_
                          refine r_lcmp C 85 dX12_isKept_84 rfl ?_
                          refine r_if_eq C 88 96 dX12_isKept_85 (by decide) rfl (fun c_28 => ?_) (fun c_28 => ?_)
                          · exact imp_sub [(0, .long (x0))] [0] rfl (hj_17)
                          · refine r_lload_n C 89 0 rfl dX12_isKept_88 rfl ?_
                            refine r_ldc2 C 92 lcX12_171 dX12_isKept_89 rfl ?_
                            refine r_lcmp C 93 dX12_isKept_92 rfl ?_
                            refine r_if_ne C 96 100 dX12_isKept_93 (by decide) rfl (fun c_29 => ?_) (fun c_29 => ?_)
                            · exact imp_sub [(0, .long (x0))] [0] rfl (hj_17)
                            · refine r_iconst C 101 (nI 0) (by decide) dX12_isKept_100 rfl ?_
                              exact imp_sub [(0, .long (x0))] [0] rfl (hj_2 ((nI 0)))
set_option maxHeartbeats 4000000 in
theorem ok_f_X12_isKept (x0 : Int64)  (h : CH) : ∀ q, f_X12_isKept x0 h = some q → MG yX12_isKept cX12_isKept 3 (some .boolean) [] 1 (fun ad => [.long x0]) h ((fun (x : Int32) (_ : Nat → Nat) => some (Value.int x)) q) ((fun (_ : Int32) => h) q) := mg_of RX12 (by decide) rfl (fun _ => Nat.le_of_ble_eq_true rfl) (fun κ C Rr => imp_f_X12_isKept C x0 h Rr)
set_option maxHeartbeats 4000000 in
set_option maxRecDepth 100000 in
theorem imp_f_X12_goOn_L259 {κ : Kx (Unit × CH)} (C : Cx κ cX12_goOn RX12 3 2 (40 * 2) [])   (k322 : CH → Option (Unit × CH)) (hk322 : ∀ (h_17 : CH), Imp κ 322 [(0, .ref (kad κ 151))] [] h_17 (k322 h_17)) (Rr : Rt κ none (fun (_ : Unit × CH) (_ : Nat → Nat) => (none : Option Value)) (fun (q : (Unit × CH)) => q.2)) : ∀ (n : Nat)  (h : CH), Imp κ 259 [(0, .ref (kad κ 151))] [] h (f_X12_goOn_L259 k322 n h) := by
  intro n
  induction n with
  | zero => intros; exact imp_none
  | succ n ih =>
    intro h
    rw [f_X12_goOn_L259]
    refine r_aload_n C 260 0 rfl dX12_goOn_259 rfl ?_
    refine r_aload_n C 261 0 rfl dX12_goOn_260 rfl ?_
    refine r_getI C 264 dX12_goOn_261 flX12_201 kt_151 rfl rfl ?_
    refine r_cVpI C 267 [] (ok_f_X12_sign (h.1 151 7) h) dX12_goOn_264 lvX12_207 kt_151 rfl rfl rfl (by decide) (Nat.le_of_ble_eq_true rfl) rfl rfl (Nat.le_of_ble_eq_true rfl) rfl rfl (fun v_18 => ?_)
    refine r_cSpI C 270 [] (ok_f_X12_isDigit v_18 h) dX12_goOn_267 lsX12_226 rfl (by decide) (Nat.le_of_ble_eq_true rfl) rfl rfl (Nat.le_of_ble_eq_true rfl) rfl rfl (fun v_19 => ?_)
    refine r_if_eq C 273 322 dX12_goOn_270 (by decide) rfl (fun c_20 => ?_) (fun c_20 => ?_)
    · exact imp_sub [(0, .ref (kad κ 151))] [0] rfl (hk322 h)
    · refine r_aload_n C 274 0 rfl dX12_goOn_273 rfl ?_
      refine r_getI C 277 dX12_goOn_274 flX12_201 kt_151 rfl rfl ?_
      refine r_aload_n C 278 0 rfl dX12_goOn_277 rfl ?_
      refine r_getI C 281 dX12_goOn_278 flX12_204 kt_151 rfl rfl ?_
      refine r_isub C 282 dX12_goOn_281 rfl ?_
      refine r_iconst C 283 (nI 4) (by decide) dX12_goOn_282 rfl ?_
      refine imp_jn (fun (j_22 : CH → Option (Unit × CH)) => ∀ (h_21 : CH), Imp κ 309 [(0, .ref (kad κ 151))] [] h_21 (j_22 h_21)) ?_ ?_
      · intro h_21
        refine r_aload_n C 310 0 rfl dX12_goOn_309 rfl ?_
        refine r_dup C 311 rfl dX12_goOn_310 rfl ?_
        refine r_getI C 314 dX12_goOn_311 flX12_201 kt_151 rfl rfl ?_
        refine r_iconst C 315 (nI 1) (by decide) dX12_goOn_314 rfl ?_
        refine r_iadd C 316 dX12_goOn_315 rfl ?_
        refine r_putI C 319 dX12_goOn_316 flX12_201 kt_151 rfl rfl (fun h_23 => ?_)
        refine r_goto C 259 dX12_goOn_319 (by decide) ?_
        exact imp_sub [(0, .ref (kad κ 151))] [0] rfl (ih h_23)
      · intro j_22 hj_22
        refine r_icmp_ge C 286 309 dX12_goOn_283 (by decide) rfl (fun c_24 => ?_) (fun c_24 => ?_)
        · refine r_aload_n C 287 0 rfl dX12_goOn_286 rfl ?_
          refine r_bipush C 289 (nI 10) (by decide) dX12_goOn_287 rfl ?_
          refine r_aload_n C 290 0 rfl dX12_goOn_289 rfl ?_
          refine r_getI C 293 dX12_goOn_290 flX12_229 kt_151 rfl rfl ?_
          refine r_imul C 294 dX12_goOn_293 rfl ?_
          refine r_aload_n C 295 0 rfl dX12_goOn_294 rfl ?_
          refine r_aload_n C 296 0 rfl dX12_goOn_295 rfl ?_
          refine r_getI C 299 dX12_goOn_296 flX12_201 kt_151 rfl rfl ?_
          refine r_cVpI C 302 [.int (((nI 10)) * (h.1 151 9)), .ref (kad κ 151)] (ok_f_X12_sign (h.1 151 7) h) dX12_goOn_299 lvX12_207 kt_151 rfl rfl rfl (by decide) (Nat.le_of_ble_eq_true rfl) rfl rfl (Nat.le_of_ble_eq_true rfl) rfl rfl (fun v_25 => ?_)
          refine r_iadd C 303 dX12_goOn_302 rfl ?_
          refine r_bipush C 305 (nI 48) (by decide) dX12_goOn_303 rfl ?_
          refine r_isub C 306 dX12_goOn_305 rfl ?_
          refine r_putI C 309 dX12_goOn_306 flX12_229 kt_151 rfl rfl (fun h_26 => ?_)
          exact imp_sub [(0, .ref (kad κ 151))] [0] rfl (hj_22 h_26)
        · exact imp_sub [(0, .ref (kad κ 151))] [0] rfl (hj_22 h)
set_option maxHeartbeats 4000000 in
set_option maxRecDepth 100000 in
theorem imp_f_X12_goOn_L119 {κ : Kx (Unit × CH)} (C : Cx κ cX12_goOn RX12 3 2 (40 * 2) [])   (k146 : CH → Option (Unit × CH)) (hk146 : ∀ (h_35 : CH), Imp κ 146 [(0, .ref (kad κ 151))] [] h_35 (k146 h_35)) (Rr : Rt κ none (fun (_ : Unit × CH) (_ : Nat → Nat) => (none : Option Value)) (fun (q : (Unit × CH)) => q.2)) : ∀ (n : Nat)  (h : CH), Imp κ 119 [(0, .ref (kad κ 151))] [] h (f_X12_goOn_L119 k146 n h) := by
  intro n
  induction n with
  | zero => intros; exact imp_none
  | succ n ih =>
    intro h
    rw [f_X12_goOn_L119]
    refine r_aload_n C 120 0 rfl dX12_goOn_119 rfl ?_
    refine r_aload_n C 121 0 rfl dX12_goOn_120 rfl ?_
    refine r_getI C 124 dX12_goOn_121 flX12_201 kt_151 rfl rfl ?_
    refine r_cVpI C 127 [] (ok_f_X12_sign (h.1 151 7) h) dX12_goOn_124 lvX12_207 kt_151 rfl rfl rfl (by decide) (Nat.le_of_ble_eq_true rfl) rfl rfl (Nat.le_of_ble_eq_true rfl) rfl rfl (fun v_36 => ?_)
    refine r_cSpI C 130 [] (ok_f_X12_isLetter v_36 h) dX12_goOn_127 lsX12_214 rfl (by decide) (Nat.le_of_ble_eq_true rfl) rfl rfl (Nat.le_of_ble_eq_true rfl) rfl rfl (fun v_37 => ?_)
    refine r_if_eq C 133 146 dX12_goOn_130 (by decide) rfl (fun c_38 => ?_) (fun c_38 => ?_)
    · exact imp_sub [(0, .ref (kad κ 151))] [0] rfl (hk146 h)
    · refine r_aload_n C 134 0 rfl dX12_goOn_133 rfl ?_
      refine r_dup C 135 rfl dX12_goOn_134 rfl ?_
      refine r_getI C 138 dX12_goOn_135 flX12_201 kt_151 rfl rfl ?_
      refine r_iconst C 139 (nI 1) (by decide) dX12_goOn_138 rfl ?_
      refine r_iadd C 140 dX12_goOn_139 rfl ?_
      refine r_putI C 143 dX12_goOn_140 flX12_201 kt_151 rfl rfl (fun h_39 => ?_)
      refine r_goto C 119 dX12_goOn_143 (by decide) ?_
      exact imp_sub [(0, .ref (kad κ 151))] [0] rfl (ih h_39)
set_option maxHeartbeats 4000000 in
set_option maxRecDepth 100000 in
theorem imp_f_X12_goOn_L156 {κ : Kx (Unit × CH)} (C : Cx κ cX12_goOn RX12 3 2 (40 * 2) [])   (k199 : CH → Option (Unit × CH)) (hk199 : ∀ (h_41 : CH), Imp κ 199 [(0, .ref (kad κ 151))] [] h_41 (k199 h_41)) (Rr : Rt κ none (fun (_ : Unit × CH) (_ : Nat → Nat) => (none : Option Value)) (fun (q : (Unit × CH)) => q.2)) : ∀ (n : Nat) (x2 : Int32) (h : CH), Imp κ 156 [(0, .ref (kad κ 151)), (2, .int (x2))] [] h (f_X12_goOn_L156 k199 n x2 h) := by
  intro n
  induction n with
  | zero => intros; exact imp_none
  | succ n ih =>
    intro x2 h
    rw [f_X12_goOn_L156]
    refine r_iload_n C 157 1 rfl dX12_goOn_156 rfl ?_
    refine r_aload_n C 158 0 rfl dX12_goOn_157 rfl ?_
    refine r_getI C 161 dX12_goOn_158 flX12_201 kt_151 rfl rfl ?_
    refine r_icmp_ge C 164 199 dX12_goOn_161 (by decide) rfl (fun c_42 => ?_) (fun c_42 => ?_)
    · refine r_iload_n C 165 1 rfl dX12_goOn_164 rfl ?_
      refine r_aload_n C 166 0 rfl dX12_goOn_165 rfl ?_
      refine r_getI C 169 dX12_goOn_166 flX12_204 kt_151 rfl rfl ?_
      refine r_bipush C 171 (nI 8) (by decide) dX12_goOn_169 rfl ?_
      refine r_iadd C 172 dX12_goOn_171 rfl ?_
      refine r_icmp_ge C 175 199 dX12_goOn_172 (by decide) rfl (fun c_43 => ?_) (fun c_43 => ?_)
      · refine r_aload_n C 176 0 rfl dX12_goOn_175 rfl ?_
        refine r_aload_n C 177 0 rfl dX12_goOn_176 rfl ?_
        refine r_getL C 180 dX12_goOn_177 flX12_218 kt_151 rfl rfl ?_
        refine r_bipush C 182 (nI 8) (by decide) dX12_goOn_180 rfl ?_
        refine r_lshl C 183 dX12_goOn_182 rfl ?_
        refine r_aload_n C 184 0 rfl dX12_goOn_183 rfl ?_
        refine r_iload_n C 185 1 rfl dX12_goOn_184 rfl ?_
        refine r_cVpI C 188 [.long ((h.2 151 10) <<< (((nI 8)).toInt64 &&& 63)), .ref (kad κ 151)] (ok_f_X12_sign x2 h) dX12_goOn_185 lvX12_207 kt_151 rfl rfl rfl (by decide) (Nat.le_of_ble_eq_true rfl) rfl rfl (Nat.le_of_ble_eq_true rfl) rfl rfl (fun v_44 => ?_)
        refine r_i2l C 189 dX12_goOn_188 rfl ?_
        refine r_lor C 190 dX12_goOn_189 rfl ?_
        refine r_putJ C 193 dX12_goOn_190 flX12_218 kt_151 rfl rfl (fun h_45 => ?_)
        refine r_iinc C 196 1 (nI 1) [(2, .int (x2 + (nI 1))), (0, .ref (kad κ 151))] dX12_goOn_193 rfl (by decide) (by decide) rfl rfl ?_
        refine r_goto C 156 dX12_goOn_196 (by decide) ?_
        exact imp_sub [(0, .ref (kad κ 151)), (2, .int (x2 + (nI 1)))] [1, 0] rfl (ih (x2 + (nI 1)) h_45)
      · exact imp_sub [(0, .ref (kad κ 151))] [0] rfl (hk199 h)
    · exact imp_sub [(0, .ref (kad κ 151))] [0] rfl (hk199 h)
set_option maxHeartbeats 4000000 in
set_option maxRecDepth 100000 in
theorem imp_f_X12_goOn_L8 {κ : Kx (Unit × CH)} (C : Cx κ cX12_goOn RX12 3 2 (40 * 2) [])     (Rr : Rt κ none (fun (_ : Unit × CH) (_ : Nat → Nat) => (none : Option Value)) (fun (q : (Unit × CH)) => q.2)) : ∀ (n : Nat)  (h : CH), Imp κ 8 [(0, .ref (kad κ 151))] [] h (f_X12_goOn_L8 n h) := by
  intro n
  induction n with
  | zero => intros; exact imp_none
  | succ n ih =>
    intro h
    rw [f_X12_goOn_L8]
    refine r_aload_n C 9 0 rfl dX12_goOn_8 rfl ?_
    refine r_getI C 12 dX12_goOn_9 flX12_204 kt_151 rfl rfl ?_
    refine r_aload_n C 13 0 rfl dX12_goOn_12 rfl ?_
    refine r_getI C 16 dX12_goOn_13 flX12_143 kt_151 rfl rfl ?_
    refine imp_jn (fun (j_2 : Option (Unit × CH)) =>  Imp κ 58 [(0, .ref (kad κ 151))] [] h (j_2)) ?_ ?_
    · refine r_aload_n C 59 0 rfl dX12_goOn_58 rfl ?_
      refine r_aload_n C 60 0 rfl dX12_goOn_59 rfl ?_
      refine r_getI C 63 dX12_goOn_60 flX12_204 kt_151 rfl rfl ?_
      refine r_cVpI C 66 [] (ok_f_X12_sign (h.1 151 6) h) dX12_goOn_63 lvX12_207 kt_151 rfl rfl rfl (by decide) (Nat.le_of_ble_eq_true rfl) rfl rfl (Nat.le_of_ble_eq_true rfl) rfl rfl (fun v_3 => ?_)
      refine r_istore_n C 67 1 [(1, .int (v_3)), (0, .ref (kad κ 151))] dX12_goOn_66 rfl (by decide) rfl rfl ?_
      refine r_aload_n C 68 1 rfl dX12_goOn_67 rfl ?_
      refine r_aload_n C 69 1 rfl dX12_goOn_68 rfl ?_
      refine r_getI C 72 dX12_goOn_69 flX12_204 kt_151 rfl rfl ?_
      refine r_iconst C 73 (nI 1) (by decide) dX12_goOn_72 rfl ?_
      refine r_iadd C 74 dX12_goOn_73 rfl ?_
      refine r_putI C 77 dX12_goOn_74 flX12_201 kt_151 rfl rfl (fun h_4 => ?_)
      refine r_aload_n C 78 1 rfl dX12_goOn_77 rfl ?_
      refine r_getI C 81 dX12_goOn_78 flX12_204 kt_151 rfl rfl ?_
      refine r_aload_n C 82 1 rfl dX12_goOn_81 rfl ?_
      refine r_getI C 85 dX12_goOn_82 flX12_143 kt_151 rfl rfl ?_
      refine r_icmp_lt C 88 112 dX12_goOn_85 (by decide) rfl (fun c_5 => ?_) (fun c_5 => ?_)
      · refine r_iload_n C 113 0 rfl dX12_goOn_112 rfl ?_
        refine r_cSpI C 116 [] (ok_f_X12_isLetter v_3 h_4) dX12_goOn_113 lsX12_214 rfl (by decide) (Nat.le_of_ble_eq_true rfl) rfl rfl (Nat.le_of_ble_eq_true rfl) rfl rfl (fun v_6 => ?_)
        refine r_if_eq C 119 239 dX12_goOn_116 (by decide) rfl (fun c_7 => ?_) (fun c_7 => ?_)
        · refine r_iload_n C 240 0 rfl dX12_goOn_239 rfl ?_
          refine r_cSpI C 243 [] (ok_f_X12_isDigit v_3 h_4) dX12_goOn_240 lsX12_226 rfl (by decide) (Nat.le_of_ble_eq_true rfl) rfl rfl (Nat.le_of_ble_eq_true rfl) rfl rfl (fun v_8 => ?_)
          refine r_if_eq C 246 361 dX12_goOn_243 (by decide) rfl (fun c_9 => ?_) (fun c_9 => ?_)
          · refine r_aload_n C 362 1 rfl dX12_goOn_361 rfl ?_
            refine r_aload_n C 363 1 rfl dX12_goOn_362 rfl ?_
            refine r_iload_n C 364 0 rfl dX12_goOn_363 rfl ?_
            refine r_cVpI C 367 [.ref (kad κ 151)] (ok_f_X12_isSign v_3 h_4) dX12_goOn_364 lvX12_232 kt_151 rfl rfl rfl (by decide) (Nat.le_of_ble_eq_true rfl) rfl rfl (Nat.le_of_ble_eq_true rfl) rfl rfl (fun v_10 => ?_)
            refine imp_jn (fun (j_12 : Int32 → Option (Unit × CH)) => ∀ (s_11 : Int32), Imp κ 375 [] [.int (s_11), .ref (kad κ 151)] h_4 (j_12 s_11)) ?_ ?_
            · intro s_11
              refine r_putI C 378 dX12_goOn_375 flX12_211 kt_151 rfl rfl (fun h_13 => ?_)
              exact r_vret C Rr dX12_goOn_378 (fun _ => rfl) rfl
            · intro j_12 hj_12
              refine r_if_eq C 370 374 dX12_goOn_367 (by decide) rfl (fun c_14 => ?_) (fun c_14 => ?_)
              · refine r_iconst C 375 (nI 1) (by decide) dX12_goOn_374 rfl ?_
                exact imp_sub [] [] rfl (hj_12 ((nI 1)))
              · refine r_iconst C 371 (nI 5) (by decide) dX12_goOn_370 rfl ?_
                refine r_goto C 375 dX12_goOn_371 (by decide) ?_
                exact imp_sub [] [] rfl (hj_12 ((nI 5)))
          · refine r_aload_n C 247 1 rfl dX12_goOn_246 rfl ?_
            refine r_iconst C 248 (nI 0) (by decide) dX12_goOn_247 rfl ?_
            refine r_putI C 251 dX12_goOn_248 flX12_229 kt_151 rfl rfl (fun h_15 => ?_)
            refine r_aload_n C 252 1 rfl dX12_goOn_251 rfl ?_
            refine r_aload_n C 253 1 rfl dX12_goOn_252 rfl ?_
            refine r_getI C 256 dX12_goOn_253 flX12_204 kt_151 rfl rfl ?_
            refine r_putI C 259 dX12_goOn_256 flX12_201 kt_151 rfl rfl (fun h_16 => ?_)
            refine imp_sub [(0, .ref (kad κ 151))] [1] rfl ?_
            refine imp_f_X12_goOn_L259 C _ ?_ Rr FU h_16
            · intro h_17
              refine r_aload_n C 323 0 rfl dX12_goOn_322 rfl ?_
              refine r_aload_n C 324 0 rfl dX12_goOn_323 rfl ?_
              refine r_getI C 327 dX12_goOn_324 flX12_201 kt_151 rfl rfl ?_
              refine r_aload_n C 328 0 rfl dX12_goOn_327 rfl ?_
              refine r_getI C 331 dX12_goOn_328 flX12_204 kt_151 rfl rfl ?_
              refine r_isub C 332 dX12_goOn_331 rfl ?_
              refine r_iconst C 333 (nI 4) (by decide) dX12_goOn_332 rfl ?_
              refine imp_jn (fun (j_28 : Int32 → Option (Unit × CH)) => ∀ (s_27 : Int32), Imp κ 355 [] [.int (s_27), .ref (kad κ 151)] h_17 (j_28 s_27)) ?_ ?_
              · intro s_27
                refine r_putI C 358 dX12_goOn_355 flX12_211 kt_151 rfl rfl (fun h_29 => ?_)
                refine r_goto C 378 dX12_goOn_358 (by decide) ?_
                exact r_vret C Rr dX12_goOn_378 (fun _ => rfl) rfl
              · intro j_28 hj_28
                refine imp_jn (fun (j_30 : Option (Unit × CH)) =>  Imp κ 350 [] [.ref (kad κ 151)] h_17 (j_30)) ?_ ?_
                · refine r_iconst C 351 (nI 1) (by decide) dX12_goOn_350 rfl ?_
                  refine r_goto C 355 dX12_goOn_351 (by decide) ?_
                  exact imp_sub [] [] rfl (hj_28 ((nI 1)))
                · intro j_30 hj_30
                  refine r_icmp_gt C 336 350 dX12_goOn_333 (by decide) rfl (fun c_31 => ?_) (fun c_31 => ?_)
                  · exact imp_sub [] [] rfl (hj_30)
                  · refine r_aload_n C 337 0 rfl dX12_goOn_336 rfl ?_
                    refine r_aload_n C 338 0 rfl dX12_goOn_337 rfl ?_
                    refine r_getI C 341 dX12_goOn_338 flX12_201 kt_151 rfl rfl ?_
                    refine r_cVpI C 344 [.ref (kad κ 151)] (ok_f_X12_sign (h_17.1 151 7) h_17) dX12_goOn_341 lvX12_207 kt_151 rfl rfl rfl (by decide) (Nat.le_of_ble_eq_true rfl) rfl rfl (Nat.le_of_ble_eq_true rfl) rfl rfl (fun v_32 => ?_)
                    refine r_cSpI C 347 [.ref (kad κ 151)] (ok_f_X12_isLetter v_32 h_17) dX12_goOn_344 lsX12_214 rfl (by decide) (Nat.le_of_ble_eq_true rfl) rfl rfl (Nat.le_of_ble_eq_true rfl) rfl rfl (fun v_33 => ?_)
                    refine r_if_eq C 350 354 dX12_goOn_347 (by decide) rfl (fun c_34 => ?_) (fun c_34 => ?_)
                    · refine r_iconst C 355 (nI 4) (by decide) dX12_goOn_354 rfl ?_
                      exact imp_sub [] [] rfl (hj_28 ((nI 4)))
                    · exact imp_sub [] [] rfl (hj_30)
        · refine imp_sub [(0, .ref (kad κ 151))] [1] rfl ?_
          refine imp_f_X12_goOn_L119 C _ ?_ Rr FU h_4
          · intro h_35
            refine r_aload_n C 147 0 rfl dX12_goOn_146 rfl ?_
            refine r_lconst C 148 0 (by decide) dX12_goOn_147 rfl ?_
            refine r_putJ C 151 dX12_goOn_148 flX12_218 kt_151 rfl rfl (fun h_40 => ?_)
            refine r_aload_n C 152 0 rfl dX12_goOn_151 rfl ?_
            refine r_getI C 155 dX12_goOn_152 flX12_204 kt_151 rfl rfl ?_
            refine r_istore_n C 156 2 [(2, .int (h_40.1 151 6)), (0, .ref (kad κ 151))] dX12_goOn_155 rfl (by decide) rfl rfl ?_
            refine imp_sub [(0, .ref (kad κ 151)), (2, .int (h_40.1 151 6))] [1, 0] rfl ?_
            refine imp_f_X12_goOn_L156 C _ ?_ Rr FU (h_40.1 151 6) h_40
            · intro h_41
              refine r_aload_n C 200 0 rfl dX12_goOn_199 rfl ?_
              refine r_aload_n C 201 0 rfl dX12_goOn_200 rfl ?_
              refine r_getI C 204 dX12_goOn_201 flX12_201 kt_151 rfl rfl ?_
              refine r_aload_n C 205 0 rfl dX12_goOn_204 rfl ?_
              refine r_getI C 208 dX12_goOn_205 flX12_204 kt_151 rfl rfl ?_
              refine r_isub C 209 dX12_goOn_208 rfl ?_
              refine r_bipush C 211 (nI 8) (by decide) dX12_goOn_209 rfl ?_
              refine imp_jn (fun (j_47 : Int32 → Option (Unit × CH)) => ∀ (s_46 : Int32), Imp κ 233 [] [.int (s_46), .ref (kad κ 151)] h_41 (j_47 s_46)) ?_ ?_
              · intro s_46
                refine r_putI C 236 dX12_goOn_233 flX12_211 kt_151 rfl rfl (fun h_48 => ?_)
                refine r_goto C 378 dX12_goOn_236 (by decide) ?_
                exact r_vret C Rr dX12_goOn_378 (fun _ => rfl) rfl
              · intro j_47 hj_47
                refine r_icmp_le C 214 218 dX12_goOn_211 (by decide) rfl (fun c_49 => ?_) (fun c_49 => ?_)
                · refine r_iconst C 215 (nI 1) (by decide) dX12_goOn_214 rfl ?_
                  refine r_goto C 233 dX12_goOn_215 (by decide) ?_
                  exact imp_sub [] [] rfl (hj_47 ((nI 1)))
                · refine r_aload_n C 219 0 rfl dX12_goOn_218 rfl ?_
                  refine r_getL C 222 dX12_goOn_219 flX12_218 kt_151 rfl rfl ?_
                  refine r_cSpI C 225 [.ref (kad κ 151)] (ok_f_X12_isKept (h_41.2 151 10) h_41) dX12_goOn_222 lsX12_222 rfl (by decide) (Nat.le_of_ble_eq_true rfl) rfl rfl (Nat.le_of_ble_eq_true rfl) rfl rfl (fun v_50 => ?_)
                  refine r_if_eq C 228 232 dX12_goOn_225 (by decide) rfl (fun c_51 => ?_) (fun c_51 => ?_)
                  · refine r_iconst C 233 (nI 2) (by decide) dX12_goOn_232 rfl ?_
                    exact imp_sub [] [] rfl (hj_47 ((nI 2)))
                  · refine r_iconst C 229 (nI 3) (by decide) dX12_goOn_228 rfl ?_
                    refine r_goto C 233 dX12_goOn_229 (by decide) ?_
                    exact imp_sub [] [] rfl (hj_47 ((nI 3)))
      · refine r_aload_n C 89 1 rfl dX12_goOn_88 rfl ?_
        refine r_iconst C 90 (nI 0) (by decide) dX12_goOn_89 rfl ?_
        refine r_putI C 93 dX12_goOn_90 flX12_211 kt_151 rfl rfl (fun h_52 => ?_)
        refine r_aload_n C 94 1 rfl dX12_goOn_93 rfl ?_
        refine r_aload_n C 95 1 rfl dX12_goOn_94 rfl ?_
        refine r_getI C 98 dX12_goOn_95 flX12_143 kt_151 rfl rfl ?_
        refine r_putI C 101 dX12_goOn_98 flX12_204 kt_151 rfl rfl (fun h_53 => ?_)
        refine r_aload_n C 102 1 rfl dX12_goOn_101 rfl ?_
        refine r_aload_n C 103 1 rfl dX12_goOn_102 rfl ?_
        refine r_getI C 106 dX12_goOn_103 flX12_143 kt_151 rfl rfl ?_
        refine r_putI C 109 dX12_goOn_106 flX12_201 kt_151 rfl rfl (fun h_54 => ?_)
        refine r_goto C 378 dX12_goOn_109 (by decide) ?_
        exact r_vret C Rr dX12_goOn_378 (fun _ => rfl) rfl
    · intro j_2 hj_2
      refine r_icmp_ge C 19 58 dX12_goOn_16 (by decide) rfl (fun c_55 => ?_) (fun c_55 => ?_)
      · refine r_aload_n C 20 0 rfl dX12_goOn_19 rfl ?_
        refine r_aload_n C 21 0 rfl dX12_goOn_20 rfl ?_
        refine r_getI C 24 dX12_goOn_21 flX12_204 kt_151 rfl rfl ?_
        refine r_cVpI C 27 [] (ok_f_X12_sign (h.1 151 6) h) dX12_goOn_24 lvX12_207 kt_151 rfl rfl rfl (by decide) (Nat.le_of_ble_eq_true rfl) rfl rfl (Nat.le_of_ble_eq_true rfl) rfl rfl (fun v_56 => ?_)
        refine r_bipush C 29 (nI 32) (by decide) dX12_goOn_27 rfl ?_
        refine imp_jn (fun (j_57 : Option (Unit × CH)) =>  Imp κ 45 [(0, .ref (kad κ 151))] [] h (j_57)) ?_ ?_
        · refine r_aload_n C 46 0 rfl dX12_goOn_45 rfl ?_
          refine r_dup C 47 rfl dX12_goOn_46 rfl ?_
          refine r_getI C 50 dX12_goOn_47 flX12_204 kt_151 rfl rfl ?_
          refine r_iconst C 51 (nI 1) (by decide) dX12_goOn_50 rfl ?_
          refine r_iadd C 52 dX12_goOn_51 rfl ?_
          refine r_putI C 55 dX12_goOn_52 flX12_204 kt_151 rfl rfl (fun h_58 => ?_)
          refine r_goto C 8 dX12_goOn_55 (by decide) ?_
          exact imp_sub [(0, .ref (kad κ 151))] [0] rfl (ih h_58)
        · intro j_57 hj_57
          refine r_icmp_eq C 32 45 dX12_goOn_29 (by decide) rfl (fun c_59 => ?_) (fun c_59 => ?_)
          · exact imp_sub [(0, .ref (kad κ 151))] [0] rfl (hj_57)
          · refine r_aload_n C 33 0 rfl dX12_goOn_32 rfl ?_
            refine r_aload_n C 34 0 rfl dX12_goOn_33 rfl ?_
            refine r_getI C 37 dX12_goOn_34 flX12_204 kt_151 rfl rfl ?_
            refine r_cVpI C 40 [] (ok_f_X12_sign (h.1 151 6) h) dX12_goOn_37 lvX12_207 kt_151 rfl rfl rfl (by decide) (Nat.le_of_ble_eq_true rfl) rfl rfl (Nat.le_of_ble_eq_true rfl) rfl rfl (fun v_60 => ?_)
            refine r_bipush C 42 (nI 10) (by decide) dX12_goOn_40 rfl ?_
            refine r_icmp_ne C 45 58 dX12_goOn_42 (by decide) rfl (fun c_61 => ?_) (fun c_61 => ?_)
            · exact imp_sub [(0, .ref (kad κ 151))] [0] rfl (hj_57)
            · exact imp_sub [(0, .ref (kad κ 151))] [0] rfl (hj_2)
      · exact imp_sub [(0, .ref (kad κ 151))] [0] rfl (hj_2)
set_option maxHeartbeats 4000000 in
set_option maxRecDepth 100000 in
theorem imp_f_X12_goOn {κ : Kx (Unit × CH)} (C : Cx κ cX12_goOn RX12 3 2 (40 * 2) [])   (h : CH) (Rr : Rt κ none (fun (_ : Unit × CH) (_ : Nat → Nat) => (none : Option Value)) (fun (q : (Unit × CH)) => q.2)) : Imp κ 0 [(0, .ref (kad κ 151))] [] h (f_X12_goOn h) := by
  unfold f_X12_goOn
  refine r_aload_n C 1 0 rfl dX12_goOn_0 rfl ?_
  refine r_aload_n C 2 0 rfl dX12_goOn_1 rfl ?_
  refine r_getI C 5 dX12_goOn_2 flX12_201 kt_151 rfl rfl ?_
  refine r_putI C 8 dX12_goOn_5 flX12_204 kt_151 rfl rfl (fun h_1 => ?_)
  refine imp_sub [(0, .ref (kad κ 151))] [0] rfl ?_
  refine imp_f_X12_goOn_L8 C Rr FU h_1
set_option maxHeartbeats 4000000 in
theorem ok_f_X12_goOn   (h : CH) : ∀ q, f_X12_goOn h = some q → MG yX12_goOn cX12_goOn 3 none [] 2 (fun ad => [.ref (ad 151)]) h ((fun (_ : Unit × CH) (_ : Nat → Nat) => (none : Option Value)) q) ((fun (q : (Unit × CH)) => q.2) q) := mg_of RX12 (by decide) rfl (fun _ => Nat.le_of_ble_eq_true rfl) (fun κ C Rr => imp_f_X12_goOn C  h Rr)
set_option maxHeartbeats 4000000 in
set_option maxRecDepth 100000 in
theorem imp_f_X12_isGood {κ : Kx Int32} (C : Cx κ cX12_isGood RX12 1 1 (40 * 1) [])   (h : CH) (Rr : Rt κ (some .boolean) (fun (x : Int32) (_ : Nat → Nat) => some (Value.int x)) (fun (_ : Int32) => h)) : Imp κ 0 [(0, .ref (kad κ 151))] [] h (f_X12_isGood h) := by
  unfold f_X12_isGood
  refine r_aload_n C 1 0 rfl dX12_isGood_0 rfl ?_
  refine r_getI C 4 dX12_isGood_1 flX12_146 kt_151 rfl rfl ?_
  refine r_if_ne C 7 11 dX12_isGood_4 (by decide) rfl (fun c_1 => ?_) (fun c_1 => ?_)
  · refine r_iconst C 8 (nI 1) (by decide) dX12_isGood_7 rfl ?_
    refine r_goto C 12 dX12_isGood_8 (by decide) ?_
    exact r_zret C Rr (by decide) dX12_isGood_12 (fun _ => rfl) rfl
  · refine r_iconst C 12 (nI 0) (by decide) dX12_isGood_11 rfl ?_
    exact r_zret C Rr (by decide) dX12_isGood_12 (fun _ => rfl) rfl
set_option maxHeartbeats 4000000 in
theorem ok_f_X12_isGood   (h : CH) : ∀ q, f_X12_isGood h = some q → MG yX12_isGood cX12_isGood 1 (some .boolean) [] 1 (fun ad => [.ref (ad 151)]) h ((fun (x : Int32) (_ : Nat → Nat) => some (Value.int x)) q) ((fun (_ : Int32) => h) q) := mg_of RX12 (by decide) rfl (fun _ => Nat.le_of_ble_eq_true rfl) (fun κ C Rr => imp_f_X12_isGood C  h Rr)
set_option maxHeartbeats 4000000 in
set_option maxRecDepth 100000 in
theorem imp_f_X12_is {κ : Kx Int32} (C : Cx κ cX12_is RX12 2 2 (40 * 2) []) (x1 : Int32)  (h : CH) (Rr : Rt κ (some .boolean) (fun (x : Int32) (_ : Nat → Nat) => some (Value.int x)) (fun (_ : Int32) => h)) : Imp κ 0 [(0, .ref (kad κ 151)), (1, .int (x1))] [] h (f_X12_is x1 h) := by
  unfold f_X12_is
  refine r_aload_n C 1 0 rfl dX12_is_0 rfl ?_
  refine r_getI C 4 dX12_is_1 flX12_211 kt_151 rfl rfl ?_
  refine r_iconst C 5 (nI 5) (by decide) dX12_is_4 rfl ?_
  refine r_icmp_ne C 8 24 dX12_is_5 (by decide) rfl (fun c_1 => ?_) (fun c_1 => ?_)
  · refine r_aload_n C 9 0 rfl dX12_is_8 rfl ?_
    refine r_aload_n C 10 0 rfl dX12_is_9 rfl ?_
    refine r_getI C 13 dX12_is_10 flX12_204 kt_151 rfl rfl ?_
    refine r_cVpI C 16 [] (ok_f_X12_sign (h.1 151 6) h) dX12_is_13 lvX12_207 kt_151 rfl rfl rfl (by decide) (Nat.le_of_ble_eq_true rfl) rfl rfl (Nat.le_of_ble_eq_true rfl) rfl rfl (fun v_2 => ?_)
    refine r_iload_n C 17 1 rfl dX12_is_16 rfl ?_
    refine r_icmp_ne C 20 24 dX12_is_17 (by decide) rfl (fun c_3 => ?_) (fun c_3 => ?_)
    · refine r_iconst C 21 (nI 1) (by decide) dX12_is_20 rfl ?_
      refine r_goto C 25 dX12_is_21 (by decide) ?_
      exact r_zret C Rr (by decide) dX12_is_25 (fun _ => rfl) rfl
    · refine r_iconst C 25 (nI 0) (by decide) dX12_is_24 rfl ?_
      exact r_zret C Rr (by decide) dX12_is_25 (fun _ => rfl) rfl
  · refine r_iconst C 25 (nI 0) (by decide) dX12_is_24 rfl ?_
    exact r_zret C Rr (by decide) dX12_is_25 (fun _ => rfl) rfl
set_option maxHeartbeats 4000000 in
theorem ok_f_X12_is (x1 : Int32)  (h : CH) : ∀ q, f_X12_is x1 h = some q → MG yX12_is cX12_is 2 (some .boolean) [] 2 (fun ad => [.ref (ad 151), .int x1]) h ((fun (x : Int32) (_ : Nat → Nat) => some (Value.int x)) q) ((fun (_ : Int32) => h) q) := mg_of RX12 (by decide) rfl (fun _ => Nat.le_of_ble_eq_true rfl) (fun κ C Rr => imp_f_X12_is C x1 h Rr)
set_option maxHeartbeats 4000000 in
set_option maxRecDepth 100000 in
theorem imp_f_X12_fails {κ : Kx (Unit × CH)} (C : Cx κ cX12_fails RX12 3 1 (40 * 1) []) (x1 : Int32) (x2 : Int32)  (h : CH) (Rr : Rt κ none (fun (_ : Unit × CH) (_ : Nat → Nat) => (none : Option Value)) (fun (q : (Unit × CH)) => q.2)) : Imp κ 0 [(0, .ref (kad κ 151)), (1, .int (x1)), (2, .int (x2))] [] h (f_X12_fails x1 x2 h) := by
  unfold f_X12_fails
  refine r_aload_n C 1 0 rfl dX12_fails_0 rfl ?_
  refine r_getI C 4 dX12_fails_1 flX12_146 kt_151 rfl rfl ?_
  refine r_if_le C 7 8 dX12_fails_4 (by decide) rfl (fun c_1 => ?_) (fun c_1 => ?_)
  · exact r_vret C Rr dX12_fails_7 (fun _ => rfl) rfl
  · refine r_aload_n C 9 0 rfl dX12_fails_8 rfl ?_
    refine r_iload_n C 10 1 rfl dX12_fails_9 rfl ?_
    refine r_putI C 13 dX12_fails_10 flX12_146 kt_151 rfl rfl (fun h_2 => ?_)
    refine r_aload_n C 14 0 rfl dX12_fails_13 rfl ?_
    refine r_iload_n C 15 2 rfl dX12_fails_14 rfl ?_
    refine r_putI C 18 dX12_fails_15 flX12_16 kt_151 rfl rfl (fun h_3 => ?_)
    exact r_vret C Rr dX12_fails_18 (fun _ => rfl) rfl
set_option maxHeartbeats 4000000 in
theorem ok_f_X12_fails (x1 : Int32) (x2 : Int32)  (h : CH) : ∀ q, f_X12_fails x1 x2 h = some q → MG yX12_fails cX12_fails 3 none [] 1 (fun ad => [.ref (ad 151), .int x1, .int x2]) h ((fun (_ : Unit × CH) (_ : Nat → Nat) => (none : Option Value)) q) ((fun (q : (Unit × CH)) => q.2) q) := mg_of RX12 (by decide) rfl (fun _ => Nat.le_of_ble_eq_true rfl) (fun κ C Rr => imp_f_X12_fails C x1 x2 h Rr)
set_option maxHeartbeats 4000000 in
set_option maxRecDepth 100000 in
theorem imp_f_X12_misplaced {κ : Kx (Unit × CH)} (C : Cx κ cX12_misplaced RX12 1 2 (40 * 2) [])   (h : CH) (Rr : Rt κ none (fun (_ : Unit × CH) (_ : Nat → Nat) => (none : Option Value)) (fun (q : (Unit × CH)) => q.2)) : Imp κ 0 [(0, .ref (kad κ 151))] [] h (f_X12_misplaced h) := by
  unfold f_X12_misplaced
  refine r_aload_n C 1 0 rfl dX12_misplaced_0 rfl ?_
  refine r_aload_n C 2 0 rfl dX12_misplaced_1 rfl ?_
  refine r_getI C 5 dX12_misplaced_2 flX12_211 kt_151 rfl rfl ?_
  refine r_iconst C 6 (nI 1) (by decide) dX12_misplaced_5 rfl ?_
  refine imp_jn (fun (j_2 : Int32 → Option (Unit × CH)) => ∀ (s_1 : Int32), Imp κ 14 [(0, .ref (kad κ 151))] [.int (s_1), .ref (kad κ 151)] h (j_2 s_1)) ?_ ?_
  · intro s_1
    refine r_aload_n C 15 0 rfl dX12_misplaced_14 rfl ?_
    refine r_getI C 18 dX12_misplaced_15 flX12_204 kt_151 rfl rfl ?_
    refine r_cViV C 21 [] (ok_f_X12_fails s_1 (h.1 151 6) h) dX12_misplaced_18 lvX12_235 kt_151 rfl rfl rfl (by decide) (Nat.le_of_ble_eq_true rfl) rfl rfl (Nat.le_of_ble_eq_true rfl) rfl rfl (fun _ h_3 => ?_)
    exact r_vret C Rr dX12_misplaced_21 (fun _ => rfl) rfl
  · intro j_2 hj_2
    refine r_icmp_ne C 9 13 dX12_misplaced_6 (by decide) rfl (fun c_4 => ?_) (fun c_4 => ?_)
    · refine r_iconst C 10 (nI 1) (by decide) dX12_misplaced_9 rfl ?_
      refine r_goto C 14 dX12_misplaced_10 (by decide) ?_
      exact imp_sub [(0, .ref (kad κ 151))] [0] rfl (hj_2 ((nI 1)))
    · refine r_iconst C 14 (nI 2) (by decide) dX12_misplaced_13 rfl ?_
      exact imp_sub [(0, .ref (kad κ 151))] [0] rfl (hj_2 ((nI 2)))
set_option maxHeartbeats 4000000 in
theorem ok_f_X12_misplaced   (h : CH) : ∀ q, f_X12_misplaced h = some q → MG yX12_misplaced cX12_misplaced 1 none [] 2 (fun ad => [.ref (ad 151)]) h ((fun (_ : Unit × CH) (_ : Nat → Nat) => (none : Option Value)) q) ((fun (q : (Unit × CH)) => q.2) q) := mg_of RX12 (by decide) rfl (fun _ => Nat.le_of_ble_eq_true rfl) (fun κ C Rr => imp_f_X12_misplaced C  h Rr)
set_option maxHeartbeats 4000000 in
set_option maxRecDepth 100000 in
theorem imp_f_X12_must {κ : Kx (Unit × CH)} (C : Cx κ cX12_must RX12 2 3 (40 * 3) []) (x1 : Int32)  (h : CH) (Rr : Rt κ none (fun (_ : Unit × CH) (_ : Nat → Nat) => (none : Option Value)) (fun (q : (Unit × CH)) => q.2)) : Imp κ 0 [(0, .ref (kad κ 151)), (1, .int (x1))] [] h (f_X12_must x1 h) := by
  unfold f_X12_must
  refine r_aload_n C 1 0 rfl dX12_must_0 rfl ?_
  refine r_cVpI C 4 [] (ok_f_X12_isGood h) dX12_must_1 lvX12_239 kt_151 rfl rfl rfl (by decide) (Nat.le_of_ble_eq_true rfl) rfl rfl (Nat.le_of_ble_eq_true rfl) rfl rfl (fun v_1 => ?_)
  refine r_if_ne C 7 8 dX12_must_4 (by decide) rfl (fun c_2 => ?_) (fun c_2 => ?_)
  · exact r_vret C Rr dX12_must_7 (fun _ => rfl) rfl
  · refine r_iload_n C 9 1 rfl dX12_must_8 rfl ?_
    refine r_if_eq C 12 19 dX12_must_9 (by decide) rfl (fun c_3 => ?_) (fun c_3 => ?_)
    · refine r_aload_n C 20 0 rfl dX12_must_19 rfl ?_
      refine r_cViV C 23 [] (ok_f_X12_misplaced h) dX12_must_20 lvX12_246 kt_151 rfl rfl rfl (by decide) (Nat.le_of_ble_eq_true rfl) rfl rfl (Nat.le_of_ble_eq_true rfl) rfl rfl (fun _ h_4 => ?_)
      exact r_vret C Rr dX12_must_23 (fun _ => rfl) rfl
    · refine r_aload_n C 13 0 rfl dX12_must_12 rfl ?_
      refine r_cViV C 16 [] (ok_f_X12_goOn h) dX12_must_13 lvX12_243 kt_151 rfl rfl rfl (by decide) (Nat.le_of_ble_eq_true rfl) rfl rfl (Nat.le_of_ble_eq_true rfl) rfl rfl (fun _ h_5 => ?_)
      refine r_goto C 23 dX12_must_16 (by decide) ?_
      exact r_vret C Rr dX12_must_23 (fun _ => rfl) rfl
set_option maxHeartbeats 4000000 in
theorem ok_f_X12_must (x1 : Int32)  (h : CH) : ∀ q, f_X12_must x1 h = some q → MG yX12_must cX12_must 2 none [] 3 (fun ad => [.ref (ad 151), .int x1]) h ((fun (_ : Unit × CH) (_ : Nat → Nat) => (none : Option Value)) q) ((fun (q : (Unit × CH)) => q.2) q) := mg_of RX12 (by decide) rfl (fun _ => Nat.le_of_ble_eq_true rfl) (fun κ C Rr => imp_f_X12_must C x1 h Rr)
set_option maxHeartbeats 4000000 in
set_option maxRecDepth 100000 in
theorem imp_f_X12_numeral {κ : Kx (Int32 × CH)} (C : Cx κ cX12_numeral RX12 4 3 (40 * 3) []) (x1 : Int32) (x2 : Int32)  (h : CH) (Rr : Rt κ (some .int) (fun (q : Int32 × CH) (_ : Nat → Nat) => some (Value.int q.1)) (fun (q : (Int32 × CH)) => q.2)) : Imp κ 0 [(0, .ref (kad κ 151)), (1, .int (x1)), (2, .int (x2))] [] h (f_X12_numeral x1 x2 h) := by
  unfold f_X12_numeral
  refine r_aload_n C 1 0 rfl dX12_numeral_0 rfl ?_
  refine r_cVpI C 4 [] (ok_f_X12_isGood h) dX12_numeral_1 lvX12_239 kt_151 rfl rfl rfl (by decide) (Nat.le_of_ble_eq_true rfl) rfl rfl (Nat.le_of_ble_eq_true rfl) rfl rfl (fun v_1 => ?_)
  refine r_if_ne C 7 9 dX12_numeral_4 (by decide) rfl (fun c_2 => ?_) (fun c_2 => ?_)
  · refine r_iload_n C 8 1 rfl dX12_numeral_7 rfl ?_
    exact r_iret C Rr dX12_numeral_8 (fun _ => rfl) rfl
  · refine r_aload_n C 10 0 rfl dX12_numeral_9 rfl ?_
    refine r_getI C 13 dX12_numeral_10 flX12_211 kt_151 rfl rfl ?_
    refine r_iconst C 14 (nI 4) (by decide) dX12_numeral_13 rfl ?_
    refine imp_jn (fun (j_4 : CH → Option (Int32 × CH)) => ∀ (h_3 : CH), Imp κ 21 [(0, .ref (kad κ 151)), (1, .int (x1)), (2, .int (x2))] [] h_3 (j_4 h_3)) ?_ ?_
    · intro h_3
      refine r_aload_n C 22 0 rfl dX12_numeral_21 rfl ?_
      refine r_cVpI C 25 [] (ok_f_X12_isGood h_3) dX12_numeral_22 lvX12_239 kt_151 rfl rfl rfl (by decide) (Nat.le_of_ble_eq_true rfl) rfl rfl (Nat.le_of_ble_eq_true rfl) rfl rfl (fun v_5 => ?_)
      refine imp_jn (fun (j_7 : CH → Option (Int32 × CH)) => ∀ (h_6 : CH), Imp κ 53 [(0, .ref (kad κ 151)), (1, .int (x1))] [] h_6 (j_7 h_6)) ?_ ?_
      · intro h_6
        refine r_aload_n C 54 0 rfl dX12_numeral_53 rfl ?_
        refine r_getI C 57 dX12_numeral_54 flX12_229 kt_151 rfl rfl ?_
        refine r_istore_n C 58 3 [(3, .int (h_6.1 151 9)), (0, .ref (kad κ 151)), (1, .int (x1))] dX12_numeral_57 rfl (by decide) rfl rfl ?_
        refine r_aload_n C 59 1 rfl dX12_numeral_58 rfl ?_
        refine r_cVpI C 62 [] (ok_f_X12_isGood h_6) dX12_numeral_59 lvX12_239 kt_151 rfl rfl rfl (by decide) (Nat.le_of_ble_eq_true rfl) rfl rfl (Nat.le_of_ble_eq_true rfl) rfl rfl (fun v_8 => ?_)
        refine imp_jn (fun (j_10 : CH → Option (Int32 × CH)) => ∀ (h_9 : CH), Imp κ 69 [(0, .ref (kad κ 151)), (1, .int (x1)), (3, .int (h_6.1 151 9))] [] h_9 (j_10 h_9)) ?_ ?_
        · intro h_9
          refine r_aload_n C 70 0 rfl dX12_numeral_69 rfl ?_
          refine r_cVpI C 73 [] (ok_f_X12_isGood h_9) dX12_numeral_70 lvX12_239 kt_151 rfl rfl rfl (by decide) (Nat.le_of_ble_eq_true rfl) rfl rfl (Nat.le_of_ble_eq_true rfl) rfl rfl (fun v_11 => ?_)
          refine r_if_eq C 76 80 dX12_numeral_73 (by decide) rfl (fun c_12 => ?_) (fun c_12 => ?_)
          · refine r_iload_n C 81 1 rfl dX12_numeral_80 rfl ?_
            exact r_iret C Rr dX12_numeral_81 (fun _ => rfl) rfl
          · refine r_iload_n C 77 2 rfl dX12_numeral_76 rfl ?_
            refine r_goto C 81 dX12_numeral_77 (by decide) ?_
            exact r_iret C Rr dX12_numeral_81 (fun _ => rfl) rfl
        · intro j_10 hj_10
          refine r_if_eq C 65 69 dX12_numeral_62 (by decide) rfl (fun c_13 => ?_) (fun c_13 => ?_)
          · exact imp_sub [(0, .ref (kad κ 151)), (1, .int (x1)), (3, .int (h_6.1 151 9))] [1, 2, 0] rfl (hj_10 h_6)
          · refine r_aload_n C 66 1 rfl dX12_numeral_65 rfl ?_
            refine r_cViV C 69 [] (ok_f_X12_goOn h_6) dX12_numeral_66 lvX12_243 kt_151 rfl rfl rfl (by decide) (Nat.le_of_ble_eq_true rfl) rfl rfl (Nat.le_of_ble_eq_true rfl) rfl rfl (fun _ h_14 => ?_)
            exact imp_sub [(0, .ref (kad κ 151)), (1, .int (x1)), (3, .int (h_6.1 151 9))] [1, 2, 0] rfl (hj_10 h_14)
      · intro j_7 hj_7
        refine r_if_eq C 28 53 dX12_numeral_25 (by decide) rfl (fun c_15 => ?_) (fun c_15 => ?_)
        · exact imp_sub [(0, .ref (kad κ 151)), (1, .int (x1))] [0, 1] rfl (hj_7 h_3)
        · refine r_aload_n C 29 0 rfl dX12_numeral_28 rfl ?_
          refine r_getI C 32 dX12_numeral_29 flX12_229 kt_151 rfl rfl ?_
          refine r_iload_n C 33 1 rfl dX12_numeral_32 rfl ?_
          refine imp_jn (fun (j_16 : Option (Int32 × CH)) =>  Imp κ 44 [(0, .ref (kad κ 151)), (1, .int (x1))] [] h_3 (j_16)) ?_ ?_
          · refine r_aload_n C 45 0 rfl dX12_numeral_44 rfl ?_
            refine r_iconst C 46 (nI 4) (by decide) dX12_numeral_45 rfl ?_
            refine r_aload_n C 47 0 rfl dX12_numeral_46 rfl ?_
            refine r_getI C 50 dX12_numeral_47 flX12_204 kt_151 rfl rfl ?_
            refine r_cViV C 53 [] (ok_f_X12_fails ((nI 4)) (h_3.1 151 6) h_3) dX12_numeral_50 lvX12_235 kt_151 rfl rfl rfl (by decide) (Nat.le_of_ble_eq_true rfl) rfl rfl (Nat.le_of_ble_eq_true rfl) rfl rfl (fun _ h_17 => ?_)
            exact imp_sub [(0, .ref (kad κ 151)), (1, .int (x1))] [0, 1] rfl (hj_7 h_17)
          · intro j_16 hj_16
            refine r_icmp_lt C 36 44 dX12_numeral_33 (by decide) rfl (fun c_18 => ?_) (fun c_18 => ?_)
            · exact imp_sub [(0, .ref (kad κ 151)), (1, .int (x1))] [0, 1] rfl (hj_16)
            · refine r_aload_n C 37 0 rfl dX12_numeral_36 rfl ?_
              refine r_getI C 40 dX12_numeral_37 flX12_229 kt_151 rfl rfl ?_
              refine r_iload_n C 41 2 rfl dX12_numeral_40 rfl ?_
              refine r_icmp_le C 44 53 dX12_numeral_41 (by decide) rfl (fun c_19 => ?_) (fun c_19 => ?_)
              · exact imp_sub [(0, .ref (kad κ 151)), (1, .int (x1))] [0, 1] rfl (hj_16)
              · exact imp_sub [(0, .ref (kad κ 151)), (1, .int (x1))] [0, 1] rfl (hj_7 h_3)
    · intro j_4 hj_4
      refine r_icmp_eq C 17 21 dX12_numeral_14 (by decide) rfl (fun c_20 => ?_) (fun c_20 => ?_)
      · exact imp_sub [(0, .ref (kad κ 151)), (1, .int (x1)), (2, .int (x2))] [0, 1, 2] rfl (hj_4 h)
      · refine r_aload_n C 18 0 rfl dX12_numeral_17 rfl ?_
        refine r_cViV C 21 [] (ok_f_X12_misplaced h) dX12_numeral_18 lvX12_246 kt_151 rfl rfl rfl (by decide) (Nat.le_of_ble_eq_true rfl) rfl rfl (Nat.le_of_ble_eq_true rfl) rfl rfl (fun _ h_21 => ?_)
        exact imp_sub [(0, .ref (kad κ 151)), (1, .int (x1)), (2, .int (x2))] [0, 1, 2] rfl (hj_4 h_21)
set_option maxHeartbeats 4000000 in
theorem ok_f_X12_numeral (x1 : Int32) (x2 : Int32)  (h : CH) : ∀ q, f_X12_numeral x1 x2 h = some q → MG yX12_numeral cX12_numeral 4 (some .int) [] 3 (fun ad => [.ref (ad 151), .int x1, .int x2]) h ((fun (q : Int32 × CH) (_ : Nat → Nat) => some (Value.int q.1)) q) ((fun (q : (Int32 × CH)) => q.2) q) := mg_of RX12 (by decide) rfl (fun _ => Nat.le_of_ble_eq_true rfl) (fun κ C Rr => imp_f_X12_numeral C x1 x2 h Rr)
