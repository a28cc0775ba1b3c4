/-! town() and rules() behind their 'new' -/
def f_X11_townT  (h : CH) : Option (Int32 × CH) :=
  cl (f_X10_read h) fun v_1 h_2 => cl (f_X11_keepFault h_2) fun _ h_3 => wrF h_3 0 1 ((nI 0)) fun h_4 => (if (v_1) = 0 then some (((-1)), h_4) else cl (f_X9_copyFrom_7_31 h_4) fun _ h_6 => cl (f_X5_clear_55 h_6) fun _ h_7 => cl (f_X2_empty_71 h_7) fun _ h_8 => cl (f_X11_emptyBoxes h_8) fun _ h_9 => some ((h_9.1 7 2), h_9))
set_option maxHeartbeats 4000000 in
set_option maxRecDepth 100000 in
theorem imp_f_X11_townT {κ : Kx (Int32 × CH)} (C : Cx κ cX11_town RX11 2 7 (40 * 7) [193])   (h : CH) (Rr : Rt κ (some .int) (fun (q : Int32 × CH) (_ : Nat → Nat) => some (Value.int q.1)) (fun (q : (Int32 × CH)) => q.2)) : Imp κ 27 [(0, .ref (kad κ 0))] [.ref (kad κ 193)] h (f_X11_townT h) := by
  unfold f_X11_townT
  refine r_cViI C 30 [] (ok_f_X10_read h) dX11_town_27 lvX11_119 kt_193 rfl rfl rfl (by decide) (Nat.le_of_ble_eq_true rfl) rfl rfl (Nat.le_of_ble_eq_true rfl) rfl rfl (fun v_1 h_2 => ?_)
  refine r_istore_n C 31 1 [(1, .int (v_1)), (0, .ref (kad κ 0))] dX11_town_30 rfl (by decide) rfl rfl ?_
  refine r_aload_n C 32 1 rfl dX11_town_31 rfl ?_
  refine r_cViV C 35 [] (ok_f_X11_keepFault h_2) dX11_town_32 lvX11_123 kt_0 rfl rfl rfl (by decide) (Nat.le_of_ble_eq_true rfl) rfl rfl (Nat.le_of_ble_eq_true rfl) rfl rfl (fun _ h_3 => ?_)
  refine r_aload_n C 36 1 rfl dX11_town_35 rfl ?_
  refine r_iconst C 37 (nI 0) (by decide) dX11_town_36 rfl ?_
  refine r_putI C 40 dX11_town_37 flX11_13 kt_0 rfl rfl (fun h_4 => ?_)
  refine r_iload_n C 41 0 rfl dX11_town_40 rfl ?_
  refine r_if_ne C 44 46 dX11_town_41 (by decide) rfl (fun c_5 => ?_) (fun c_5 => ?_)
  · refine r_iconst C 45 (-1) (by decide) dX11_town_44 rfl ?_
    exact r_iret C Rr dX11_town_45 (fun _ => rfl) rfl
  · refine r_aload_n C 47 1 rfl dX11_town_46 rfl ?_
    refine r_getR C 50 dX11_town_47 flX11_35 kt_0 rfl rf_0_5 rfl ?_
    refine r_aload_n C 51 1 rfl dX11_town_50 rfl ?_
    refine r_getR C 54 dX11_town_51 flX11_39 kt_0 rfl rf_0_6 rfl ?_
    refine r_cViV C 57 [] (ok_f_X9_copyFrom_7_31 h_4) dX11_town_54 lvX11_126 kt_7 rfl rfl rfl (by decide) (Nat.le_of_ble_eq_true rfl) rfl rfl (Nat.le_of_ble_eq_true rfl) rfl rfl (fun _ h_6 => ?_)
    refine r_aload_n C 58 1 rfl dX11_town_57 rfl ?_
    refine r_getR C 61 dX11_town_58 flX11_45 kt_0 rfl rf_0_7 rfl ?_
    refine r_cViV C 64 [] (ok_f_X5_clear_55 h_6) dX11_town_61 lvX11_130 kt_55 rfl rfl rfl (by decide) (Nat.le_of_ble_eq_true rfl) rfl rfl (Nat.le_of_ble_eq_true rfl) rfl rfl (fun _ h_7 => ?_)
    refine r_aload_n C 65 1 rfl dX11_town_64 rfl ?_
    refine r_getR C 68 dX11_town_65 flX11_55 kt_0 rfl rf_0_9 rfl ?_
    refine r_cViV C 71 [] (ok_f_X2_empty_71 h_7) dX11_town_68 lvX11_133 kt_71 rfl rfl rfl (by decide) (Nat.le_of_ble_eq_true rfl) rfl rfl (Nat.le_of_ble_eq_true rfl) rfl rfl (fun _ h_8 => ?_)
    refine r_aload_n C 72 1 rfl dX11_town_71 rfl ?_
    refine r_cViV C 75 [] (ok_f_X11_emptyBoxes h_8) dX11_town_72 lvX11_136 kt_0 rfl rfl rfl (by decide) (Nat.le_of_ble_eq_true rfl) rfl rfl (Nat.le_of_ble_eq_true rfl) rfl rfl (fun _ h_9 => ?_)
    refine r_aload_n C 76 1 rfl dX11_town_75 rfl ?_
    refine r_getR C 79 dX11_town_76 flX11_35 kt_0 rfl rf_0_5 rfl ?_
    refine r_getI C 82 dX11_town_79 flX11_139 kt_7 rfl rfl ?_
    exact r_iret C Rr dX11_town_82 (fun _ => rfl) rfl
def f_X11_rulesT  (h : CH) : Option (Int32 × CH) :=
  cl (f_X6_read h) fun v_1 h_2 => cl (f_X11_keepFault h_2) fun _ h_3 => wrF h_3 0 1 ((nI 0)) fun h_4 => (if (v_1) = 0 then some (((-1)), h_4) else cl (f_X5_copyFrom_55_63 h_4) fun _ h_6 => clp (f_X5_lines_55 h_6) fun v_7 => some ((v_7), h_6))
set_option maxHeartbeats 4000000 in
set_option maxRecDepth 100000 in
theorem imp_f_X11_rulesT {κ : Kx (Int32 × CH)} (C : Cx κ cX11_rules RX11 2 107 (40 * 107) [194])   (h : CH) (Rr : Rt κ (some .int) (fun (q : Int32 × CH) (_ : Nat → Nat) => some (Value.int q.1)) (fun (q : (Int32 × CH)) => q.2)) : Imp κ 47 [(0, .ref (kad κ 0))] [.ref (kad κ 194)] h (f_X11_rulesT h) := by
  unfold f_X11_rulesT
  refine r_cViI C 50 [] (ok_f_X6_read h) dX11_rules_47 lvX11_150 kt_194 rfl rfl rfl (by decide) (Nat.le_of_ble_eq_true rfl) rfl rfl (Nat.le_of_ble_eq_true rfl) rfl rfl (fun v_1 h_2 => ?_)
  refine r_istore_n C 51 1 [(1, .int (v_1)), (0, .ref (kad κ 0))] dX11_rules_50 rfl (by decide) rfl rfl ?_
  refine r_aload_n C 52 1 rfl dX11_rules_51 rfl ?_
  refine r_cViV C 55 [] (ok_f_X11_keepFault h_2) dX11_rules_52 lvX11_123 kt_0 rfl rfl rfl (by decide) (Nat.le_of_ble_eq_true rfl) rfl rfl (Nat.le_of_ble_eq_true rfl) rfl rfl (fun _ h_3 => ?_)
  refine r_aload_n C 56 1 rfl dX11_rules_55 rfl ?_
  refine r_iconst C 57 (nI 0) (by decide) dX11_rules_56 rfl ?_
  refine r_putI C 60 dX11_rules_57 flX11_13 kt_0 rfl rfl (fun h_4 => ?_)
  refine r_iload_n C 61 0 rfl dX11_rules_60 rfl ?_
  refine r_if_ne C 64 66 dX11_rules_61 (by decide) rfl (fun c_5 => ?_) (fun c_5 => ?_)
  · refine r_iconst C 65 (-1) (by decide) dX11_rules_64 rfl ?_
    exact r_iret C Rr dX11_rules_65 (fun _ => rfl) rfl
  · refine r_aload_n C 67 1 rfl dX11_rules_66 rfl ?_
    refine r_getR C 70 dX11_rules_67 flX11_45 kt_0 rfl rf_0_7 rfl ?_
    refine r_aload_n C 71 1 rfl dX11_rules_70 rfl ?_
    refine r_getR C 74 dX11_rules_71 flX11_49 kt_0 rfl rf_0_8 rfl ?_
    refine r_cViV C 77 [] (ok_f_X5_copyFrom_55_63 h_4) dX11_rules_74 lvX11_151 kt_55 rfl rfl rfl (by decide) (Nat.le_of_ble_eq_true rfl) rfl rfl (Nat.le_of_ble_eq_true rfl) rfl rfl (fun _ h_6 => ?_)
    refine r_aload_n C 78 1 rfl dX11_rules_77 rfl ?_
    refine r_getR C 81 dX11_rules_78 flX11_45 kt_0 rfl rf_0_7 rfl ?_
    refine r_cVpI C 84 [] (ok_f_X5_lines_55 h_6) dX11_rules_81 lvX11_154 kt_55 rfl rfl rfl (by decide) (Nat.le_of_ble_eq_true rfl) rfl rfl (Nat.le_of_ble_eq_true rfl) rfl rfl (fun v_7 => ?_)
    exact r_iret C Rr dX11_rules_84 (fun _ => rfl) rfl
