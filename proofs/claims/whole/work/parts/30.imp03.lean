/-! the methods do what the functions say, by program -/
set_option maxHeartbeats 4000000 in
set_option maxRecDepth 100000 in
theorem imp_f_X9_knowEachOther_7 {κ : Kx Int32} (C : Cx κ cX9_knowEachOther RX9 3 2 (40 * 2) []) (x1 : Int32) (x2 : Int32)  (h : CH) (Rr : Rt κ (some .boolean) (fun (x : Int32) (_ : Nat → Nat) => some (Value.int x)) (fun (_ : Int32) => h)) : Imp κ 0 [(0, .ref (kad κ 7)), (1, .int (x1)), (2, .int (x2))] [] h (f_X9_knowEachOther_7 x1 x2 h) := by
  unfold f_X9_knowEachOther_7
  refine r_aload_n C 1 0 rfl dX9_knowEachOther_0 rfl ?_
  refine r_iload_n C 2 1 rfl dX9_knowEachOther_1 rfl ?_
  refine r_cVpI C 5 [] (ok_f_X9_has_7 x1 h) dX9_knowEachOther_2 lvX9_59 kt_7 rfl rfl rfl (by decide) (Nat.le_of_ble_eq_true rfl) rfl rfl (Nat.le_of_ble_eq_true rfl) rfl rfl (fun v_1 => ?_)
  refine r_if_eq C 8 34 dX9_knowEachOther_5 (by decide) rfl (fun c_2 => ?_) (fun c_2 => ?_)
  · refine r_iconst C 35 (nI 0) (by decide) dX9_knowEachOther_34 rfl ?_
    exact r_zret C Rr (by decide) dX9_knowEachOther_35 (fun _ => rfl) rfl
  · refine r_aload_n C 9 0 rfl dX9_knowEachOther_8 rfl ?_
    refine r_iload_n C 10 2 rfl dX9_knowEachOther_9 rfl ?_
    refine r_cVpI C 13 [] (ok_f_X9_has_7 x2 h) dX9_knowEachOther_10 lvX9_59 kt_7 rfl rfl rfl (by decide) (Nat.le_of_ble_eq_true rfl) rfl rfl (Nat.le_of_ble_eq_true rfl) rfl rfl (fun v_3 => ?_)
    refine r_if_eq C 16 34 dX9_knowEachOther_13 (by decide) rfl (fun c_4 => ?_) (fun c_4 => ?_)
    · refine r_iconst C 35 (nI 0) (by decide) dX9_knowEachOther_34 rfl ?_
      exact r_zret C Rr (by decide) dX9_knowEachOther_35 (fun _ => rfl) rfl
    · refine r_aload_n C 17 0 rfl dX9_knowEachOther_16 rfl ?_
      refine r_getR C 20 dX9_knowEachOther_17 flX9_40 kt_7 rfl rf_7_8 rfl ?_
      refine r_iload_n C 21 1 rfl dX9_knowEachOther_20 rfl ?_
      refine r_iald C 22 dX9_knowEachOther_21 kt_28 rfl rfl (fun v_5 => ?_)
      refine r_iload_n C 23 2 rfl dX9_knowEachOther_22 rfl ?_
      refine r_ishr C 24 dX9_knowEachOther_23 rfl ?_
      refine r_iconst C 25 (nI 1) (by decide) dX9_knowEachOther_24 rfl ?_
      refine r_iand C 26 dX9_knowEachOther_25 rfl ?_
      refine r_iconst C 27 (nI 1) (by decide) dX9_knowEachOther_26 rfl ?_
      refine r_icmp_ne C 30 34 dX9_knowEachOther_27 (by decide) rfl (fun c_6 => ?_) (fun c_6 => ?_)
      · refine r_iconst C 31 (nI 1) (by decide) dX9_knowEachOther_30 rfl ?_
        refine r_goto C 35 dX9_knowEachOther_31 (by decide) ?_
        exact r_zret C Rr (by decide) dX9_knowEachOther_35 (fun _ => rfl) rfl
      · refine r_iconst C 35 (nI 0) (by decide) dX9_knowEachOther_34 rfl ?_
        exact r_zret C Rr (by decide) dX9_knowEachOther_35 (fun _ => rfl) rfl
set_option maxHeartbeats 4000000 in
theorem ok_f_X9_knowEachOther_7 (x1 : Int32) (x2 : Int32)  (h : CH) : ∀ q, f_X9_knowEachOther_7 x1 x2 h = some q → MG yX9_knowEachOther cX9_knowEachOther 3 (some .boolean) [] 2 (fun ad => [.ref (ad 7), .int x1, .int x2]) h ((fun (x : Int32) (_ : Nat → Nat) => some (Value.int x)) q) ((fun (_ : Int32) => h) q) := mg_of RX9 (by decide) rfl (fun _ => Nat.le_of_ble_eq_true rfl) (fun κ C Rr => imp_f_X9_knowEachOther_7 C x1 x2 h Rr)
set_option maxHeartbeats 4000000 in
set_option maxRecDepth 100000 in
theorem imp_f_X2_streetOf_71 {κ : Kx Int32} (C : Cx κ cX2_streetOf RX2 2 2 (40 * 2) []) (x1 : Int32)  (h : CH) (Rr : Rt κ (some .int) (fun (x : Int32) (_ : Nat → Nat) => some (Value.int x)) (fun (_ : Int32) => h)) : Imp κ 0 [(0, .ref (kad κ 71)), (1, .int (x1))] [] h (f_X2_streetOf_71 x1 h) := by
  unfold f_X2_streetOf_71
  refine r_aload_n C 1 0 rfl dX2_streetOf_0 rfl ?_
  refine r_iload_n C 2 1 rfl dX2_streetOf_1 rfl ?_
  refine r_cVpI C 5 [] (ok_f_X2_has_71 x1 h) dX2_streetOf_2 lvX2_41 kt_71 rfl rfl rfl (by decide) (Nat.le_of_ble_eq_true rfl) rfl rfl (Nat.le_of_ble_eq_true rfl) rfl rfl (fun v_1 => ?_)
  refine r_if_eq C 8 20 dX2_streetOf_5 (by decide) rfl (fun c_2 => ?_) (fun c_2 => ?_)
  · refine r_iconst C 21 (-1) (by decide) dX2_streetOf_20 rfl ?_
    exact r_iret C Rr dX2_streetOf_21 (fun _ => rfl) rfl
  · refine r_aload_n C 9 0 rfl dX2_streetOf_8 rfl ?_
    refine r_getR C 12 dX2_streetOf_9 flX2_32 kt_71 rfl rf_71_6 rfl ?_
    refine r_iload_n C 13 1 rfl dX2_streetOf_12 rfl ?_
    refine r_iald C 14 dX2_streetOf_13 kt_75 rfl rfl (fun v_3 => ?_)
    refine r_bipush C 16 (nI 10) (by decide) dX2_streetOf_14 rfl ?_
    refine r_iremk C 17 (by decide) dX2_streetOf_16 rfl ?_
    refine r_goto C 21 dX2_streetOf_17 (by decide) ?_
    exact r_iret C Rr dX2_streetOf_21 (fun _ => rfl) rfl
set_option maxHeartbeats 4000000 in
theorem ok_f_X2_streetOf_71 (x1 : Int32)  (h : CH) : ∀ q, f_X2_streetOf_71 x1 h = some q → MG yX2_streetOf cX2_streetOf 2 (some .int) [] 2 (fun ad => [.ref (ad 71), .int x1]) h ((fun (x : Int32) (_ : Nat → Nat) => some (Value.int x)) q) ((fun (_ : Int32) => h) q) := mg_of RX2 (by decide) rfl (fun _ => Nat.le_of_ble_eq_true rfl) (fun κ C Rr => imp_f_X2_streetOf_71 C x1 h Rr)
set_option maxHeartbeats 4000000 in
set_option maxRecDepth 100000 in
theorem imp_f_X2_yearOf_71 {κ : Kx Int32} (C : Cx κ cX2_yearOf RX2 2 2 (40 * 2) []) (x1 : Int32)  (h : CH) (Rr : Rt κ (some .int) (fun (x : Int32) (_ : Nat → Nat) => some (Value.int x)) (fun (_ : Int32) => h)) : Imp κ 0 [(0, .ref (kad κ 71)), (1, .int (x1))] [] h (f_X2_yearOf_71 x1 h) := by
  unfold f_X2_yearOf_71
  refine r_aload_n C 1 0 rfl dX2_yearOf_0 rfl ?_
  refine r_iload_n C 2 1 rfl dX2_yearOf_1 rfl ?_
  refine r_cVpI C 5 [] (ok_f_X2_has_71 x1 h) dX2_yearOf_2 lvX2_41 kt_71 rfl rfl rfl (by decide) (Nat.le_of_ble_eq_true rfl) rfl rfl (Nat.le_of_ble_eq_true rfl) rfl rfl (fun v_1 => ?_)
  refine r_if_eq C 8 20 dX2_yearOf_5 (by decide) rfl (fun c_2 => ?_) (fun c_2 => ?_)
  · refine r_iconst C 21 (nI 0) (by decide) dX2_yearOf_20 rfl ?_
    exact r_iret C Rr dX2_yearOf_21 (fun _ => rfl) rfl
  · refine r_aload_n C 9 0 rfl dX2_yearOf_8 rfl ?_
    refine r_getR C 12 dX2_yearOf_9 flX2_32 kt_71 rfl rf_71_6 rfl ?_
    refine r_iload_n C 13 1 rfl dX2_yearOf_12 rfl ?_
    refine r_iald C 14 dX2_yearOf_13 kt_75 rfl rfl (fun v_3 => ?_)
    refine r_bipush C 16 (nI 100) (by decide) dX2_yearOf_14 rfl ?_
    refine r_idivk C 17 (by decide) dX2_yearOf_16 rfl ?_
    refine r_goto C 21 dX2_yearOf_17 (by decide) ?_
    exact r_iret C Rr dX2_yearOf_21 (fun _ => rfl) rfl
set_option maxHeartbeats 4000000 in
theorem ok_f_X2_yearOf_71 (x1 : Int32)  (h : CH) : ∀ q, f_X2_yearOf_71 x1 h = some q → MG yX2_yearOf cX2_yearOf 2 (some .int) [] 2 (fun ad => [.ref (ad 71), .int x1]) h ((fun (x : Int32) (_ : Nat → Nat) => some (Value.int x)) q) ((fun (_ : Int32) => h) q) := mg_of RX2 (by decide) rfl (fun _ => Nat.le_of_ble_eq_true rfl) (fun κ C Rr => imp_f_X2_yearOf_71 C x1 h Rr)
set_option maxHeartbeats 4000000 in
set_option maxRecDepth 100000 in
theorem imp_f_X4_isSameCorner {κ : Kx Int32} (C : Cx κ cX4_isSameCorner RX4 3 3 (40 * 3) []) (x1 : Int32) (x2 : Int32)  (h : CH) (Rr : Rt κ (some .boolean) (fun (x : Int32) (_ : Nat → Nat) => some (Value.int x)) (fun (_ : Int32) => h)) : Imp κ 0 [(0, .ref (kad κ 126)), (1, .int (x1)), (2, .int (x2))] [] h (f_X4_isSameCorner x1 x2 h) := by
  unfold f_X4_isSameCorner
  refine r_aload_n C 1 0 rfl dX4_isSameCorner_0 rfl ?_
  refine r_getR C 4 dX4_isSameCorner_1 flX4_32 kt_126 rfl rf_126_1 rfl ?_
  refine r_iload_n C 5 1 rfl dX4_isSameCorner_4 rfl ?_
  refine r_cVpI C 8 [] (ok_f_X2_printerOf_71 x1 h) dX4_isSameCorner_5 lvX4_68 kt_71 rfl rfl rfl (by decide) (Nat.le_of_ble_eq_true rfl) rfl rfl (Nat.le_of_ble_eq_true rfl) rfl rfl (fun v_1 => ?_)
  refine r_aload_n C 9 0 rfl dX4_isSameCorner_8 rfl ?_
  refine r_getR C 12 dX4_isSameCorner_9 flX4_32 kt_126 rfl rf_126_1 rfl ?_
  refine r_iload_n C 13 2 rfl dX4_isSameCorner_12 rfl ?_
  refine r_cVpI C 16 [.int (v_1)] (ok_f_X2_printerOf_71 x2 h) dX4_isSameCorner_13 lvX4_68 kt_71 rfl rfl rfl (by decide) (Nat.le_of_ble_eq_true rfl) rfl rfl (Nat.le_of_ble_eq_true rfl) rfl rfl (fun v_2 => ?_)
  refine r_icmp_ne C 19 66 dX4_isSameCorner_16 (by decide) rfl (fun c_3 => ?_) (fun c_3 => ?_)
  · refine r_aload_n C 20 0 rfl dX4_isSameCorner_19 rfl ?_
    refine r_getR C 23 dX4_isSameCorner_20 flX4_32 kt_126 rfl rf_126_1 rfl ?_
    refine r_iload_n C 24 1 rfl dX4_isSameCorner_23 rfl ?_
    refine r_cVpI C 27 [] (ok_f_X2_streetOf_71 x1 h) dX4_isSameCorner_24 lvX4_71 kt_71 rfl rfl rfl (by decide) (Nat.le_of_ble_eq_true rfl) rfl rfl (Nat.le_of_ble_eq_true rfl) rfl rfl (fun v_4 => ?_)
    refine r_aload_n C 28 0 rfl dX4_isSameCorner_27 rfl ?_
    refine r_getR C 31 dX4_isSameCorner_28 flX4_32 kt_126 rfl rf_126_1 rfl ?_
    refine r_iload_n C 32 2 rfl dX4_isSameCorner_31 rfl ?_
    refine r_cVpI C 35 [.int (v_4)] (ok_f_X2_streetOf_71 x2 h) dX4_isSameCorner_32 lvX4_71 kt_71 rfl rfl rfl (by decide) (Nat.le_of_ble_eq_true rfl) rfl rfl (Nat.le_of_ble_eq_true rfl) rfl rfl (fun v_5 => ?_)
    refine r_icmp_ne C 38 66 dX4_isSameCorner_35 (by decide) rfl (fun c_6 => ?_) (fun c_6 => ?_)
    · refine r_aload_n C 39 0 rfl dX4_isSameCorner_38 rfl ?_
      refine r_getR C 42 dX4_isSameCorner_39 flX4_32 kt_126 rfl rf_126_1 rfl ?_
      refine r_iload_n C 43 1 rfl dX4_isSameCorner_42 rfl ?_
      refine r_cVpI C 46 [] (ok_f_X2_yearOf_71 x1 h) dX4_isSameCorner_43 lvX4_74 kt_71 rfl rfl rfl (by decide) (Nat.le_of_ble_eq_true rfl) rfl rfl (Nat.le_of_ble_eq_true rfl) rfl rfl (fun v_7 => ?_)
      refine r_aload_n C 47 0 rfl dX4_isSameCorner_46 rfl ?_
      refine r_getR C 50 dX4_isSameCorner_47 flX4_32 kt_126 rfl rf_126_1 rfl ?_
      refine r_iload_n C 51 2 rfl dX4_isSameCorner_50 rfl ?_
      refine r_cVpI C 54 [.int (v_7)] (ok_f_X2_yearOf_71 x2 h) dX4_isSameCorner_51 lvX4_74 kt_71 rfl rfl rfl (by decide) (Nat.le_of_ble_eq_true rfl) rfl rfl (Nat.le_of_ble_eq_true rfl) rfl rfl (fun v_8 => ?_)
      refine r_isub C 55 dX4_isSameCorner_54 rfl ?_
      refine r_mabs C 58 dX4_isSameCorner_55 lmX4_77 (Nat.le_of_ble_eq_true rfl) (by decide) rfl ?_
      refine r_iconst C 59 (nI 2) (by decide) dX4_isSameCorner_58 rfl ?_
      refine r_icmp_gt C 62 66 dX4_isSameCorner_59 (by decide) rfl (fun c_9 => ?_) (fun c_9 => ?_)
      · refine r_iconst C 67 (nI 0) (by decide) dX4_isSameCorner_66 rfl ?_
        exact r_zret C Rr (by decide) dX4_isSameCorner_67 (fun _ => rfl) rfl
      · refine r_iconst C 63 (nI 1) (by decide) dX4_isSameCorner_62 rfl ?_
        refine r_goto C 67 dX4_isSameCorner_63 (by decide) ?_
        exact r_zret C Rr (by decide) dX4_isSameCorner_67 (fun _ => rfl) rfl
    · refine r_iconst C 67 (nI 0) (by decide) dX4_isSameCorner_66 rfl ?_
      exact r_zret C Rr (by decide) dX4_isSameCorner_67 (fun _ => rfl) rfl
  · refine r_iconst C 67 (nI 0) (by decide) dX4_isSameCorner_66 rfl ?_
    exact r_zret C Rr (by decide) dX4_isSameCorner_67 (fun _ => rfl) rfl
set_option maxHeartbeats 4000000 in
theorem ok_f_X4_isSameCorner (x1 : Int32) (x2 : Int32)  (h : CH) : ∀ q, f_X4_isSameCorner x1 x2 h = some q → MG yX4_isSameCorner cX4_isSameCorner 3 (some .boolean) [] 3 (fun ad => [.ref (ad 126), .int x1, .int x2]) h ((fun (x : Int32) (_ : Nat → Nat) => some (Value.int x)) q) ((fun (_ : Int32) => h) q) := mg_of RX4 (by decide) rfl (fun _ => Nat.le_of_ble_eq_true rfl) (fun κ C Rr => imp_f_X4_isSameCorner C x1 x2 h Rr)
set_option maxHeartbeats 4000000 in
set_option maxRecDepth 100000 in
theorem imp_f_X4_hang {κ : Kx Int32} (C : Cx κ cX4_hang RX4 5 4 (40 * 4) []) (x1 : Int32) (x2 : Int32)  (h : CH) (Rr : Rt κ (some .boolean) (fun (x : Int32) (_ : Nat → Nat) => some (Value.int x)) (fun (_ : Int32) => h)) : Imp κ 0 [(0, .ref (kad κ 126)), (1, .int (x1)), (2, .int (x2))] [] h (f_X4_hang x1 x2 h) := by
  unfold f_X4_hang
  refine r_aload_n C 1 0 rfl dX4_hang_0 rfl ?_
  refine r_getR C 4 dX4_hang_1 flX4_32 kt_126 rfl rf_126_1 rfl ?_
  refine r_iload_n C 5 1 rfl dX4_hang_4 rfl ?_
  refine r_cVpI C 8 [] (ok_f_X2_faceOf_71 x1 h) dX4_hang_5 lvX4_56 kt_71 rfl rfl rfl (by decide) (Nat.le_of_ble_eq_true rfl) rfl rfl (Nat.le_of_ble_eq_true rfl) rfl rfl (fun v_1 => ?_)
  refine r_istore_n C 9 3 [(3, .int (v_1)), (0, .ref (kad κ 126)), (1, .int (x1)), (2, .int (x2))] dX4_hang_8 rfl (by decide) rfl rfl ?_
  refine r_aload_n C 10 1 rfl dX4_hang_9 rfl ?_
  refine r_getR C 13 dX4_hang_10 flX4_32 kt_126 rfl rf_126_1 rfl ?_
  refine r_iload_n C 14 3 rfl dX4_hang_13 rfl ?_
  refine r_cVpI C 17 [] (ok_f_X2_faceOf_71 x2 h) dX4_hang_14 lvX4_56 kt_71 rfl rfl rfl (by decide) (Nat.le_of_ble_eq_true rfl) rfl rfl (Nat.le_of_ble_eq_true rfl) rfl rfl (fun v_2 => ?_)
  refine r_istore C 19 [(4, .int (v_2)), (3, .int (v_1)), (0, .ref (kad κ 126)), (1, .int (x1)), (2, .int (x2))] dX4_hang_17 (by decide) rfl rfl ?_
  refine r_iload_n C 20 1 rfl dX4_hang_19 rfl ?_
  refine r_iload C 22 0 rfl dX4_hang_20 rfl ?_
  refine imp_jn (fun (j_3 : Option Int32) =>  Imp κ 47 [] [] h (j_3)) ?_ ?_
  · refine r_iconst C 48 (nI 1) (by decide) dX4_hang_47 rfl ?_
    refine r_goto C 52 dX4_hang_48 (by decide) ?_
    exact r_zret C Rr (by decide) dX4_hang_52 (fun _ => rfl) rfl
  · intro j_3 hj_3
    refine r_icmp_eq C 25 47 dX4_hang_22 (by decide) rfl (fun c_4 => ?_) (fun c_4 => ?_)
    · exact imp_sub [] [] rfl (hj_3)
    · refine r_aload_n C 26 2 rfl dX4_hang_25 rfl ?_
      refine r_getR C 29 dX4_hang_26 flX4_28 kt_126 rfl rf_126_0 rfl ?_
      refine r_iload_n C 30 1 rfl dX4_hang_29 rfl ?_
      refine r_iload C 32 0 rfl dX4_hang_30 rfl ?_
      refine r_cVpI C 35 [] (ok_f_X9_knowEachOther_7 v_1 v_2 h) dX4_hang_32 lvX4_60 kt_7 rfl rfl rfl (by decide) (Nat.le_of_ble_eq_true rfl) rfl rfl (Nat.le_of_ble_eq_true rfl) rfl rfl (fun v_5 => ?_)
      refine r_if_ne C 38 47 dX4_hang_35 (by decide) rfl (fun c_6 => ?_) (fun c_6 => ?_)
      · refine r_aload_n C 39 2 rfl dX4_hang_38 rfl ?_
        refine r_iload_n C 40 3 rfl dX4_hang_39 rfl ?_
        refine r_iload_n C 41 4 rfl dX4_hang_40 rfl ?_
        refine r_cVpI C 44 [] (ok_f_X4_isSameCorner x1 x2 h) dX4_hang_41 lvX4_65 kt_126 rfl rfl rfl (by decide) (Nat.le_of_ble_eq_true rfl) rfl rfl (Nat.le_of_ble_eq_true rfl) rfl rfl (fun v_7 => ?_)
        refine r_if_eq C 47 51 dX4_hang_44 (by decide) rfl (fun c_8 => ?_) (fun c_8 => ?_)
        · refine r_iconst C 52 (nI 0) (by decide) dX4_hang_51 rfl ?_
          exact r_zret C Rr (by decide) dX4_hang_52 (fun _ => rfl) rfl
        · exact imp_sub [] [] rfl (hj_3)
      · exact imp_sub [] [] rfl (hj_3)
set_option maxHeartbeats 4000000 in
theorem ok_f_X4_hang (x1 : Int32) (x2 : Int32)  (h : CH) : ∀ q, f_X4_hang x1 x2 h = some q → MG yX4_hang cX4_hang 5 (some .boolean) [] 4 (fun ad => [.ref (ad 126), .int x1, .int x2]) h ((fun (x : Int32) (_ : Nat → Nat) => some (Value.int x)) q) ((fun (_ : Int32) => h) q) := mg_of RX4 (by decide) rfl (fun _ => Nat.le_of_ble_eq_true rfl) (fun κ C Rr => imp_f_X4_hang C x1 x2 h Rr)
set_option maxHeartbeats 4000000 in
set_option maxRecDepth 100000 in
theorem imp_f_X4_gather_L35 {κ : Kx (Unit × CH)} (C : Cx κ cX4_gather RX4 6 5 (40 * 5) []) (x1 : Int32) (x2 : Int32) (x4 : Int32)  (k125 : Int32 → CH → Option (Unit × CH)) (hk125 : ∀ (x3_7 : Int32) (h_8 : CH), Imp κ 125 [(0, .ref (kad κ 126)), (1, .int (x1)), (2, .int (x2)), (3, .int (x3_7)), (4, .int (x4))] [] h_8 (k125 x3_7 h_8)) (Rr : Rt κ none (fun (_ : Unit × CH) (_ : Nat → Nat) => (none : Option Value)) (fun (q : (Unit × CH)) => q.2)) : ∀ (n : Nat) (x3 : Int32) (x5 : Int32) (h : CH), Imp κ 35 [(0, .ref (kad κ 126)), (1, .int (x1)), (2, .int (x2)), (3, .int (x3)), (4, .int (x4)), (5, .int (x5))] [] h (f_X4_gather_L35 x1 x2 x4 k125 n x3 x5 h) := by
  intro n
  induction n with
  | zero => intros; exact imp_none
  | succ n ih =>
    intro x3 x5 h
    rw [f_X4_gather_L35]
    refine r_iload C 37 5 rfl dX4_gather_35 rfl ?_
    refine r_aload_n C 38 0 rfl dX4_gather_37 rfl ?_
    refine r_getR C 41 dX4_gather_38 flX4_32 kt_126 rfl rf_126_1 rfl ?_
    refine r_getI C 44 dX4_gather_41 flX4_36 kt_71 rfl rfl ?_
    refine r_icmp_ge C 47 125 dX4_gather_44 (by decide) rfl (fun c_9 => ?_) (fun c_9 => ?_)
    · refine r_iload C 49 5 rfl dX4_gather_47 rfl ?_
      refine r_bipush C 51 (nI 40) (by decide) dX4_gather_49 rfl ?_
      refine r_icmp_ge C 54 125 dX4_gather_51 (by decide) rfl (fun c_10 => ?_) (fun c_10 => ?_)
      · refine r_aload_n C 55 0 rfl dX4_gather_54 rfl ?_
        refine r_getR C 58 dX4_gather_55 flX4_9 kt_126 rfl rf_126_2 rfl ?_
        refine r_iload C 60 5 rfl dX4_gather_58 rfl ?_
        refine r_iald C 61 dX4_gather_60 kt_127 rfl rfl (fun v_11 => ?_)
        refine r_iconst C 62 (-1) (by decide) dX4_gather_61 rfl ?_
        refine imp_jn (fun (j_14 : Int32 → CH → Option (Unit × CH)) => ∀ (x3_12 : Int32) (h_13 : CH), Imp κ 119 [(0, .ref (kad κ 126)), (1, .int (x1)), (2, .int (x2)), (3, .int (x3_12)), (4, .int (x4)), (5, .int (x5))] [] h_13 (j_14 x3_12 h_13)) ?_ ?_
        · intro x3_12 h_13
          refine r_iinc C 122 5 (nI 1) [(5, .int (x5 + (nI 1))), (0, .ref (kad κ 126)), (1, .int (x1)), (2, .int (x2)), (3, .int (x3_12)), (4, .int (x4))] dX4_gather_119 rfl (by decide) (by decide) rfl rfl ?_
          refine r_goto C 35 dX4_gather_122 (by decide) ?_
          exact imp_sub [(0, .ref (kad κ 126)), (1, .int (x1)), (2, .int (x2)), (3, .int (x3_12)), (4, .int (x4)), (5, .int (x5 + (nI 1)))] [1, 2, 3, 4, 5, 0] rfl (ih (x3_12) (x5 + (nI 1)) h_13)
        · intro j_14 hj_14
          refine r_icmp_ne C 65 119 dX4_gather_62 (by decide) rfl (fun c_15 => ?_) (fun c_15 => ?_)
          · refine r_aload_n C 66 0 rfl dX4_gather_65 rfl ?_
            refine r_getR C 69 dX4_gather_66 flX4_32 kt_126 rfl rf_126_1 rfl ?_
            refine r_iload C 71 5 rfl dX4_gather_69 rfl ?_
            refine r_iload_n C 72 2 rfl dX4_gather_71 rfl ?_
            refine r_cVpI C 75 [] (ok_f_X2_counts_71 x5 x2 h) dX4_gather_72 lvX4_41 kt_71 rfl rfl rfl (by decide) (Nat.le_of_ble_eq_true rfl) rfl rfl (Nat.le_of_ble_eq_true rfl) rfl rfl (fun v_16 => ?_)
            refine r_if_eq C 78 119 dX4_gather_75 (by decide) rfl (fun c_17 => ?_) (fun c_17 => ?_)
            · exact imp_sub [(0, .ref (kad κ 126)), (1, .int (x1)), (2, .int (x2)), (3, .int (x3)), (4, .int (x4)), (5, .int (x5))] [0, 1, 2, 3, 4, 5] rfl (hj_14 (x3) h)
            · refine r_aload_n C 79 0 rfl dX4_gather_78 rfl ?_
              refine r_aload_n C 80 0 rfl dX4_gather_79 rfl ?_
              refine r_getR C 83 dX4_gather_80 flX4_18 kt_126 rfl rf_126_4 rfl ?_
              refine r_iload C 85 4 rfl dX4_gather_83 rfl ?_
              refine r_iald C 86 dX4_gather_85 kt_129 rfl rfl (fun v_18 => ?_)
              refine r_iload C 88 5 rfl dX4_gather_86 rfl ?_
              refine r_cVpI C 91 [] (ok_f_X4_hang v_18 x5 h) dX4_gather_88 lvX4_53 kt_126 rfl rfl rfl (by decide) (Nat.le_of_ble_eq_true rfl) rfl rfl (Nat.le_of_ble_eq_true rfl) rfl rfl (fun v_19 => ?_)
              refine r_if_eq C 94 119 dX4_gather_91 (by decide) rfl (fun c_20 => ?_) (fun c_20 => ?_)
              · exact imp_sub [(0, .ref (kad κ 126)), (1, .int (x1)), (2, .int (x2)), (3, .int (x3)), (4, .int (x4)), (5, .int (x5))] [0, 1, 2, 3, 4, 5] rfl (hj_14 (x3) h)
              · refine r_iload_n C 95 3 rfl dX4_gather_94 rfl ?_
                refine r_bipush C 97 (nI 40) (by decide) dX4_gather_95 rfl ?_
                refine r_icmp_ge C 100 119 dX4_gather_97 (by decide) rfl (fun c_21 => ?_) (fun c_21 => ?_)
                · refine r_aload_n C 101 0 rfl dX4_gather_100 rfl ?_
                  refine r_getR C 104 dX4_gather_101 flX4_9 kt_126 rfl rf_126_2 rfl ?_
                  refine r_iload C 106 5 rfl dX4_gather_104 rfl ?_
                  refine r_iload_n C 107 1 rfl dX4_gather_106 rfl ?_
                  refine r_iast C 108 dX4_gather_107 kt_127 rfl rfl (fun h_22 => ?_)
                  refine r_aload_n C 109 0 rfl dX4_gather_108 rfl ?_
                  refine r_getR C 112 dX4_gather_109 flX4_18 kt_126 rfl rf_126_4 rfl ?_
                  refine r_iload_n C 113 3 rfl dX4_gather_112 rfl ?_
                  refine r_iload C 115 5 rfl dX4_gather_113 rfl ?_
                  refine r_iast C 116 dX4_gather_115 kt_129 rfl rfl (fun h_23 => ?_)
                  refine r_iinc C 119 3 (nI 1) [(3, .int (x3 + (nI 1))), (0, .ref (kad κ 126)), (1, .int (x1)), (2, .int (x2)), (4, .int (x4)), (5, .int (x5))] dX4_gather_116 rfl (by decide) (by decide) rfl rfl ?_
                  exact imp_sub [(0, .ref (kad κ 126)), (1, .int (x1)), (2, .int (x2)), (3, .int (x3 + (nI 1))), (4, .int (x4)), (5, .int (x5))] [1, 2, 3, 0, 4, 5] rfl (hj_14 (x3 + (nI 1)) h_23)
                · exact imp_sub [(0, .ref (kad κ 126)), (1, .int (x1)), (2, .int (x2)), (3, .int (x3)), (4, .int (x4)), (5, .int (x5))] [0, 1, 2, 3, 4, 5] rfl (hj_14 (x3) h)
          · exact imp_sub [(0, .ref (kad κ 126)), (1, .int (x1)), (2, .int (x2)), (3, .int (x3)), (4, .int (x4)), (5, .int (x5))] [0, 1, 2, 3, 4, 5] rfl (hj_14 (x3) h)
      · exact imp_sub [(0, .ref (kad κ 126)), (1, .int (x1)), (2, .int (x2)), (3, .int (x3)), (4, .int (x4))] [0, 1, 2, 3, 4] rfl (hk125 (x3) h)
    · exact imp_sub [(0, .ref (kad κ 126)), (1, .int (x1)), (2, .int (x2)), (3, .int (x3)), (4, .int (x4))] [0, 1, 2, 3, 4] rfl (hk125 (x3) h)
set_option maxHeartbeats 4000000 in
set_option maxRecDepth 100000 in
theorem imp_f_X4_gather_L19 {κ : Kx (Unit × CH)} (C : Cx κ cX4_gather RX4 6 5 (40 * 5) []) (x1 : Int32) (x2 : Int32)    (Rr : Rt κ none (fun (_ : Unit × CH) (_ : Nat → Nat) => (none : Option Value)) (fun (q : (Unit × CH)) => q.2)) : ∀ (n : Nat) (x3 : Int32) (x4 : Int32) (h : CH), Imp κ 19 [(0, .ref (kad κ 126)), (1, .int (x1)), (2, .int (x2)), (3, .int (x3)), (4, .int (x4))] [] h (f_X4_gather_L19 x1 x2 n x3 x4 h) := by
  intro n
  induction n with
  | zero => intros; exact imp_none
  | succ n ih =>
    intro x3 x4 h
    rw [f_X4_gather_L19]
    refine r_iload C 21 4 rfl dX4_gather_19 rfl ?_
    refine r_iload_n C 22 3 rfl dX4_gather_21 rfl ?_
    refine imp_jn (fun (j_3 : Option (Unit × CH)) =>  Imp κ 131 [(0, .ref (kad κ 126)), (1, .int (x1)), (3, .int (x3))] [] h (j_3)) ?_ ?_
    · refine r_aload_n C 132 0 rfl dX4_gather_131 rfl ?_
      refine r_getR C 135 dX4_gather_132 flX4_15 kt_126 rfl rf_126_3 rfl ?_
      refine r_iload_n C 136 1 rfl dX4_gather_135 rfl ?_
      refine r_iload_n C 137 2 rfl dX4_gather_136 rfl ?_
      refine r_iast C 138 dX4_gather_137 kt_128 rfl rfl (fun h_4 => ?_)
      exact r_vret C Rr dX4_gather_138 (fun _ => rfl) rfl
    · intro j_3 hj_3
      refine r_icmp_ge C 25 131 dX4_gather_22 (by decide) rfl (fun c_5 => ?_) (fun c_5 => ?_)
      · refine r_iload C 27 4 rfl dX4_gather_25 rfl ?_
        refine r_bipush C 29 (nI 40) (by decide) dX4_gather_27 rfl ?_
        refine r_icmp_ge C 32 131 dX4_gather_29 (by decide) rfl (fun c_6 => ?_) (fun c_6 => ?_)
        · refine r_iconst C 33 (nI 0) (by decide) dX4_gather_32 rfl ?_
          refine r_istore C 35 [(5, .int ((nI 0))), (0, .ref (kad κ 126)), (1, .int (x1)), (2, .int (x2)), (3, .int (x3)), (4, .int (x4))] dX4_gather_33 (by decide) rfl rfl ?_
          refine imp_sub [(0, .ref (kad κ 126)), (1, .int (x1)), (2, .int (x2)), (3, .int (x3)), (4, .int (x4)), (5, .int ((nI 0)))] [1, 2, 3, 4, 5, 0] rfl ?_
          refine imp_f_X4_gather_L35 C (x1) (x2) (x4) _ ?_ Rr FU (x3) ((nI 0)) h
          · intro x3_7 h_8
            refine r_iinc C 128 4 (nI 1) [(4, .int (x4 + (nI 1))), (0, .ref (kad κ 126)), (1, .int (x1)), (2, .int (x2)), (3, .int (x3_7))] dX4_gather_125 rfl (by decide) (by decide) rfl rfl ?_
            refine r_goto C 19 dX4_gather_128 (by decide) ?_
            exact imp_sub [(0, .ref (kad κ 126)), (1, .int (x1)), (2, .int (x2)), (3, .int (x3_7)), (4, .int (x4 + (nI 1)))] [1, 2, 3, 4, 0] rfl (ih (x3_7) (x4 + (nI 1)) h_8)
        · exact imp_sub [(0, .ref (kad κ 126)), (1, .int (x1)), (3, .int (x3))] [0, 1, 3] rfl (hj_3)
      · exact imp_sub [(0, .ref (kad κ 126)), (1, .int (x1)), (3, .int (x3))] [0, 1, 3] rfl (hj_3)
set_option maxHeartbeats 4000000 in
set_option maxRecDepth 100000 in
theorem imp_f_X4_gather {κ : Kx (Unit × CH)} (C : Cx κ cX4_gather RX4 6 5 (40 * 5) []) (x1 : Int32) (x2 : Int32)  (h : CH) (Rr : Rt κ none (fun (_ : Unit × CH) (_ : Nat → Nat) => (none : Option Value)) (fun (q : (Unit × CH)) => q.2)) : Imp κ 0 [(0, .ref (kad κ 126)), (1, .int (x1)), (2, .int (x2))] [] h (f_X4_gather x1 x2 h) := by
  unfold f_X4_gather
  refine r_aload_n C 1 0 rfl dX4_gather_0 rfl ?_
  refine r_getR C 4 dX4_gather_1 flX4_18 kt_126 rfl rf_126_4 rfl ?_
  refine r_iconst C 5 (nI 0) (by decide) dX4_gather_4 rfl ?_
  refine r_iload_n C 6 1 rfl dX4_gather_5 rfl ?_
  refine r_iast C 7 dX4_gather_6 kt_129 rfl rfl (fun h_1 => ?_)
  refine r_aload_n C 8 0 rfl dX4_gather_7 rfl ?_
  refine r_getR C 11 dX4_gather_8 flX4_9 kt_126 rfl rf_126_2 rfl ?_
  refine r_iload_n C 12 1 rfl dX4_gather_11 rfl ?_
  refine r_iload_n C 13 1 rfl dX4_gather_12 rfl ?_
  refine r_iast C 14 dX4_gather_13 kt_127 rfl rfl (fun h_2 => ?_)
  refine r_iconst C 15 (nI 1) (by decide) dX4_gather_14 rfl ?_
  refine r_istore_n C 16 3 [(3, .int ((nI 1))), (0, .ref (kad κ 126)), (1, .int (x1)), (2, .int (x2))] dX4_gather_15 rfl (by decide) rfl rfl ?_
  refine r_iconst C 17 (nI 0) (by decide) dX4_gather_16 rfl ?_
  refine r_istore C 19 [(4, .int ((nI 0))), (3, .int ((nI 1))), (0, .ref (kad κ 126)), (1, .int (x1)), (2, .int (x2))] dX4_gather_17 (by decide) rfl rfl ?_
  refine imp_sub [(0, .ref (kad κ 126)), (1, .int (x1)), (2, .int (x2)), (3, .int ((nI 1))), (4, .int ((nI 0)))] [2, 3, 4, 1, 0] rfl ?_
  refine imp_f_X4_gather_L19 C (x1) (x2) Rr FU ((nI 1)) ((nI 0)) h_2
set_option maxHeartbeats 4000000 in
theorem ok_f_X4_gather (x1 : Int32) (x2 : Int32)  (h : CH) : ∀ q, f_X4_gather x1 x2 h = some q → MG yX4_gather cX4_gather 6 none [] 5 (fun ad => [.ref (ad 126), .int x1, .int x2]) h ((fun (_ : Unit × CH) (_ : Nat → Nat) => (none : Option Value)) q) ((fun (q : (Unit × CH)) => q.2) q) := mg_of RX4 (by decide) rfl (fun _ => Nat.le_of_ble_eq_true rfl) (fun κ C Rr => imp_f_X4_gather C x1 x2 h Rr)
set_option maxHeartbeats 4000000 in
set_option maxRecDepth 100000 in
theorem imp_f_X4_greatestSize {κ : Kx Int32} (C : Cx κ cX4_greatestSize RX4 1 1 (40 * 1) [])   (h : CH) (Rr : Rt κ (some .int) (fun (x : Int32) (_ : Nat → Nat) => some (Value.int x)) (fun (_ : Int32) => h)) : Imp κ 0 [(0, .ref (kad κ 126))] [] h (f_X4_greatestSize h) := by
  unfold f_X4_greatestSize
  refine r_aload_n C 1 0 rfl dX4_greatestSize_0 rfl ?_
  refine r_getI C 4 dX4_greatestSize_1 flX4_25 kt_126 rfl rfl ?_
  refine r_if_lt C 7 28 dX4_greatestSize_4 (by decide) rfl (fun c_1 => ?_) (fun c_1 => ?_)
  · refine r_iconst C 29 (nI 0) (by decide) dX4_greatestSize_28 rfl ?_
    exact r_iret C Rr dX4_greatestSize_29 (fun _ => rfl) rfl
  · refine r_aload_n C 8 0 rfl dX4_greatestSize_7 rfl ?_
    refine r_getI C 11 dX4_greatestSize_8 flX4_25 kt_126 rfl rfl ?_
    refine r_bipush C 13 (nI 40) (by decide) dX4_greatestSize_11 rfl ?_
    refine r_icmp_ge C 16 28 dX4_greatestSize_13 (by decide) rfl (fun c_2 => ?_) (fun c_2 => ?_)
    · refine r_aload_n C 17 0 rfl dX4_greatestSize_16 rfl ?_
      refine r_getR C 20 dX4_greatestSize_17 flX4_15 kt_126 rfl rf_126_3 rfl ?_
      refine r_aload_n C 21 0 rfl dX4_greatestSize_20 rfl ?_
      refine r_getI C 24 dX4_greatestSize_21 flX4_25 kt_126 rfl rfl ?_
      refine r_iald C 25 dX4_greatestSize_24 kt_128 rfl rfl (fun v_3 => ?_)
      refine r_goto C 29 dX4_greatestSize_25 (by decide) ?_
      exact r_iret C Rr dX4_greatestSize_29 (fun _ => rfl) rfl
    · refine r_iconst C 29 (nI 0) (by decide) dX4_greatestSize_28 rfl ?_
      exact r_iret C Rr dX4_greatestSize_29 (fun _ => rfl) rfl
set_option maxHeartbeats 4000000 in
theorem ok_f_X4_greatestSize   (h : CH) : ∀ q, f_X4_greatestSize h = some q → MG yX4_greatestSize cX4_greatestSize 1 (some .int) [] 1 (fun ad => [.ref (ad 126)]) h ((fun (x : Int32) (_ : Nat → Nat) => some (Value.int x)) q) ((fun (_ : Int32) => h) q) := mg_of RX4 (by decide) rfl (fun _ => Nat.le_of_ble_eq_true rfl) (fun κ C Rr => imp_f_X4_greatestSize C  h Rr)
set_option maxHeartbeats 4000000 in
set_option maxRecDepth 100000 in
theorem imp_f_X4_part_L40 {κ : Kx (Unit × CH)} (C : Cx κ cX4_part RX4 3 6 (40 * 6) []) (x1 : Int32)    (Rr : Rt κ none (fun (_ : Unit × CH) (_ : Nat → Nat) => (none : Option Value)) (fun (q : (Unit × CH)) => q.2)) : ∀ (n : Nat) (x2 : Int32) (h : CH), Imp κ 40 [(0, .ref (kad κ 126)), (1, .int (x1)), (2, .int (x2))] [] h (f_X4_part_L40 x1 n x2 h) := by
  intro n
  induction n with
  | zero => intros; exact imp_none
  | succ n ih =>
    intro x2 h
    rw [f_X4_part_L40]
    refine r_iload_n C 41 2 rfl dX4_part_40 rfl ?_
    refine r_aload_n C 42 0 rfl dX4_part_41 rfl ?_
    refine r_getR C 45 dX4_part_42 flX4_32 kt_126 rfl rf_126_1 rfl ?_
    refine r_getI C 48 dX4_part_45 flX4_36 kt_71 rfl rfl ?_
    refine r_icmp_ge C 51 119 dX4_part_48 (by decide) rfl (fun c_6 => ?_) (fun c_6 => ?_)
    · refine r_iload_n C 52 2 rfl dX4_part_51 rfl ?_
      refine r_bipush C 54 (nI 40) (by decide) dX4_part_52 rfl ?_
      refine r_icmp_ge C 57 119 dX4_part_54 (by decide) rfl (fun c_7 => ?_) (fun c_7 => ?_)
      · refine r_aload_n C 58 0 rfl dX4_part_57 rfl ?_
        refine r_getR C 61 dX4_part_58 flX4_9 kt_126 rfl rf_126_2 rfl ?_
        refine r_iload_n C 62 2 rfl dX4_part_61 rfl ?_
        refine r_iald C 63 dX4_part_62 kt_127 rfl rfl (fun v_8 => ?_)
        refine r_iconst C 64 (-1) (by decide) dX4_part_63 rfl ?_
        refine imp_jn (fun (j_10 : CH → Option (Unit × CH)) => ∀ (h_9 : CH), Imp κ 113 [(0, .ref (kad κ 126)), (1, .int (x1)), (2, .int (x2))] [] h_9 (j_10 h_9)) ?_ ?_
        · intro h_9
          refine r_iinc C 116 2 (nI 1) [(2, .int (x2 + (nI 1))), (0, .ref (kad κ 126)), (1, .int (x1))] dX4_part_113 rfl (by decide) (by decide) rfl rfl ?_
          refine r_goto C 40 dX4_part_116 (by decide) ?_
          exact imp_sub [(0, .ref (kad κ 126)), (1, .int (x1)), (2, .int (x2 + (nI 1)))] [1, 2, 0] rfl (ih (x2 + (nI 1)) h_9)
        · intro j_10 hj_10
          refine r_icmp_ne C 67 113 dX4_part_64 (by decide) rfl (fun c_11 => ?_) (fun c_11 => ?_)
          · refine r_aload_n C 68 0 rfl dX4_part_67 rfl ?_
            refine r_getR C 71 dX4_part_68 flX4_32 kt_126 rfl rf_126_1 rfl ?_
            refine r_iload_n C 72 2 rfl dX4_part_71 rfl ?_
            refine r_iload_n C 73 1 rfl dX4_part_72 rfl ?_
            refine r_cVpI C 76 [] (ok_f_X2_counts_71 x2 x1 h) dX4_part_73 lvX4_41 kt_71 rfl rfl rfl (by decide) (Nat.le_of_ble_eq_true rfl) rfl rfl (Nat.le_of_ble_eq_true rfl) rfl rfl (fun v_12 => ?_)
            refine r_if_eq C 79 113 dX4_part_76 (by decide) rfl (fun c_13 => ?_) (fun c_13 => ?_)
            · exact imp_sub [(0, .ref (kad κ 126)), (1, .int (x1)), (2, .int (x2))] [0, 1, 2] rfl (hj_10 h)
            · refine r_aload_n C 80 0 rfl dX4_part_79 rfl ?_
              refine r_iload_n C 81 2 rfl dX4_part_80 rfl ?_
              refine r_iload_n C 82 1 rfl dX4_part_81 rfl ?_
              refine r_cViV C 85 [] (ok_f_X4_gather x2 x1 h) dX4_part_82 lvX4_45 kt_126 rfl rfl rfl (by decide) (Nat.le_of_ble_eq_true rfl) rfl rfl (Nat.le_of_ble_eq_true rfl) rfl rfl (fun _ h_14 => ?_)
              refine r_aload_n C 86 0 rfl dX4_part_85 rfl ?_
              refine r_dup C 87 rfl dX4_part_86 rfl ?_
              refine r_getI C 90 dX4_part_87 flX4_21 kt_126 rfl rfl ?_
              refine r_iconst C 91 (nI 1) (by decide) dX4_part_90 rfl ?_
              refine r_iadd C 92 dX4_part_91 rfl ?_
              refine r_putI C 95 dX4_part_92 flX4_21 kt_126 rfl rfl (fun h_15 => ?_)
              refine r_aload_n C 96 0 rfl dX4_part_95 rfl ?_
              refine r_getR C 99 dX4_part_96 flX4_15 kt_126 rfl rf_126_3 rfl ?_
              refine r_iload_n C 100 2 rfl dX4_part_99 rfl ?_
              refine r_iald C 101 dX4_part_100 kt_128 rfl rfl (fun v_16 => ?_)
              refine r_aload_n C 102 0 rfl dX4_part_101 rfl ?_
              refine r_cVpI C 105 [.int (v_16)] (ok_f_X4_greatestSize h_15) dX4_part_102 lvX4_49 kt_126 rfl rfl rfl (by decide) (Nat.le_of_ble_eq_true rfl) rfl rfl (Nat.le_of_ble_eq_true rfl) rfl rfl (fun v_17 => ?_)
              refine r_icmp_le C 108 113 dX4_part_105 (by decide) rfl (fun c_18 => ?_) (fun c_18 => ?_)
              · refine r_aload_n C 109 0 rfl dX4_part_108 rfl ?_
                refine r_iload_n C 110 2 rfl dX4_part_109 rfl ?_
                refine r_putI C 113 dX4_part_110 flX4_25 kt_126 rfl rfl (fun h_19 => ?_)
                exact imp_sub [(0, .ref (kad κ 126)), (1, .int (x1)), (2, .int (x2))] [0, 1, 2] rfl (hj_10 h_19)
              · exact imp_sub [(0, .ref (kad κ 126)), (1, .int (x1)), (2, .int (x2))] [0, 1, 2] rfl (hj_10 h_15)
          · exact imp_sub [(0, .ref (kad κ 126)), (1, .int (x1)), (2, .int (x2))] [0, 1, 2] rfl (hj_10 h)
      · exact r_vret C Rr dX4_part_119 (fun _ => rfl) rfl
    · exact r_vret C Rr dX4_part_119 (fun _ => rfl) rfl
set_option maxHeartbeats 4000000 in
set_option maxRecDepth 100000 in
theorem imp_f_X4_part_L12 {κ : Kx (Unit × CH)} (C : Cx κ cX4_part RX4 3 6 (40 * 6) []) (x1 : Int32)    (Rr : Rt κ none (fun (_ : Unit × CH) (_ : Nat → Nat) => (none : Option Value)) (fun (q : (Unit × CH)) => q.2)) : ∀ (n : Nat) (x2 : Int32) (h : CH), Imp κ 12 [(0, .ref (kad κ 126)), (1, .int (x1)), (2, .int (x2))] [] h (f_X4_part_L12 x1 n x2 h) := by
  intro n
  induction n with
  | zero => intros; exact imp_none
  | succ n ih =>
    intro x2 h
    rw [f_X4_part_L12]
    refine r_iload_n C 13 2 rfl dX4_part_12 rfl ?_
    refine r_bipush C 15 (nI 40) (by decide) dX4_part_13 rfl ?_
    refine r_icmp_ge C 18 38 dX4_part_15 (by decide) rfl (fun c_3 => ?_) (fun c_3 => ?_)
    · refine r_aload_n C 19 0 rfl dX4_part_18 rfl ?_
      refine r_getR C 22 dX4_part_19 flX4_9 kt_126 rfl rf_126_2 rfl ?_
      refine r_iload_n C 23 2 rfl dX4_part_22 rfl ?_
      refine r_iconst C 24 (-1) (by decide) dX4_part_23 rfl ?_
      refine r_iast C 25 dX4_part_24 kt_127 rfl rfl (fun h_4 => ?_)
      refine r_aload_n C 26 0 rfl dX4_part_25 rfl ?_
      refine r_getR C 29 dX4_part_26 flX4_15 kt_126 rfl rf_126_3 rfl ?_
      refine r_iload_n C 30 2 rfl dX4_part_29 rfl ?_
      refine r_iconst C 31 (nI 0) (by decide) dX4_part_30 rfl ?_
      refine r_iast C 32 dX4_part_31 kt_128 rfl rfl (fun h_5 => ?_)
      refine r_iinc C 35 2 (nI 1) [(2, .int (x2 + (nI 1))), (0, .ref (kad κ 126)), (1, .int (x1))] dX4_part_32 rfl (by decide) (by decide) rfl rfl ?_
      refine r_goto C 12 dX4_part_35 (by decide) ?_
      exact imp_sub [(0, .ref (kad κ 126)), (1, .int (x1)), (2, .int (x2 + (nI 1)))] [1, 2, 0] rfl (ih (x2 + (nI 1)) h_5)
    · refine r_iconst C 39 (nI 0) (by decide) dX4_part_38 rfl ?_
      refine r_istore_n C 40 2 [(2, .int ((nI 0))), (0, .ref (kad κ 126)), (1, .int (x1))] dX4_part_39 rfl (by decide) rfl rfl ?_
      refine imp_sub [(0, .ref (kad κ 126)), (1, .int (x1)), (2, .int ((nI 0)))] [1, 2, 0] rfl ?_
      refine imp_f_X4_part_L40 C (x1) Rr FU ((nI 0)) h
set_option maxHeartbeats 4000000 in
set_option maxRecDepth 100000 in
theorem imp_f_X4_part {κ : Kx (Unit × CH)} (C : Cx κ cX4_part RX4 3 6 (40 * 6) []) (x1 : Int32)  (h : CH) (Rr : Rt κ none (fun (_ : Unit × CH) (_ : Nat → Nat) => (none : Option Value)) (fun (q : (Unit × CH)) => q.2)) : Imp κ 0 [(0, .ref (kad κ 126)), (1, .int (x1))] [] h (f_X4_part x1 h) := by
  unfold f_X4_part
  refine r_aload_n C 1 0 rfl dX4_part_0 rfl ?_
  refine r_iconst C 2 (nI 0) (by decide) dX4_part_1 rfl ?_
  refine r_putI C 5 dX4_part_2 flX4_21 kt_126 rfl rfl (fun h_1 => ?_)
  refine r_aload_n C 6 0 rfl dX4_part_5 rfl ?_
  refine r_iconst C 7 (-1) (by decide) dX4_part_6 rfl ?_
  refine r_putI C 10 dX4_part_7 flX4_25 kt_126 rfl rfl (fun h_2 => ?_)
  refine r_iconst C 11 (nI 0) (by decide) dX4_part_10 rfl ?_
  refine r_istore_n C 12 2 [(2, .int ((nI 0))), (0, .ref (kad κ 126)), (1, .int (x1))] dX4_part_11 rfl (by decide) rfl rfl ?_
  refine imp_sub [(0, .ref (kad κ 126)), (1, .int (x1)), (2, .int ((nI 0)))] [1, 2, 0] rfl ?_
  refine imp_f_X4_part_L12 C (x1) Rr FU ((nI 0)) h_2
set_option maxHeartbeats 4000000 in
theorem ok_f_X4_part (x1 : Int32)  (h : CH) : ∀ q, f_X4_part x1 h = some q → MG yX4_part cX4_part 3 none [] 6 (fun ad => [.ref (ad 126), .int x1]) h ((fun (_ : Unit × CH) (_ : Nat → Nat) => (none : Option Value)) q) ((fun (q : (Unit × CH)) => q.2) q) := mg_of RX4 (by decide) rfl (fun _ => Nat.le_of_ble_eq_true rfl) (fun κ C Rr => imp_f_X4_part C x1 h Rr)
set_option maxHeartbeats 4000000 in
set_option maxRecDepth 100000 in
theorem imp_f_X11_rings {κ : Kx (Int32 × CH)} (C : Cx κ cX11_rings RX11 3 7 (40 * 7) []) (x1 : Int32) (x2 : Int32)  (h : CH) (Rr : Rt κ (some .int) (fun (q : Int32 × CH) (_ : Nat → Nat) => some (Value.int q.1)) (fun (q : (Int32 × CH)) => q.2)) : Imp κ 0 [(0, .ref (kad κ 0)), (1, .int (x1)), (2, .int (x2))] [] h (f_X11_rings x1 x2 h) := by
  unfold f_X11_rings
  refine r_iload_n C 1 1 rfl dX11_rings_0 rfl ?_
  refine r_if_lt C 4 9 dX11_rings_1 (by decide) rfl (fun c_1 => ?_) (fun c_1 => ?_)
  · refine r_iconst C 10 (-1) (by decide) dX11_rings_9 rfl ?_
    exact r_iret C Rr dX11_rings_10 (fun _ => rfl) rfl
  · refine r_iload_n C 5 1 rfl dX11_rings_4 rfl ?_
    refine r_iconst C 6 (nI 2) (by decide) dX11_rings_5 rfl ?_
    refine r_icmp_le C 9 11 dX11_rings_6 (by decide) rfl (fun c_2 => ?_) (fun c_2 => ?_)
    · refine r_iconst C 10 (-1) (by decide) dX11_rings_9 rfl ?_
      exact r_iret C Rr dX11_rings_10 (fun _ => rfl) rfl
    · refine r_aload_n C 12 0 rfl dX11_rings_11 rfl ?_
      refine r_getR C 15 dX11_rings_12 flX11_102 kt_0 rfl rf_0_15 rfl ?_
      refine r_iload_n C 16 2 rfl dX11_rings_15 rfl ?_
      refine r_cViV C 19 [] (ok_f_X4_part x2 h) dX11_rings_16 lvX11_264 kt_126 rfl rfl rfl (by decide) (Nat.le_of_ble_eq_true rfl) rfl rfl (Nat.le_of_ble_eq_true rfl) rfl rfl (fun _ h_3 => ?_)
      refine r_iload_n C 20 1 rfl dX11_rings_19 rfl ?_
      refine imp_ite (fun g_4 => ?_) (fun g_4 => ?_)
      · refine r_lookup C 48 dX11_rings_20 rfl (by rw [g_4]) (by decide) ?_
        refine r_aload_n C 49 0 rfl dX11_rings_48 rfl ?_
        refine r_getR C 52 dX11_rings_49 flX11_102 kt_0 rfl rf_0_15 rfl ?_
        refine r_getI C 55 dX11_rings_52 flX11_267 kt_126 rfl rfl ?_
        exact r_iret C Rr dX11_rings_55 (fun _ => rfl) rfl
      · refine imp_ite (fun g_5 => ?_) (fun g_5 => ?_)
        · refine r_lookup C 56 dX11_rings_20 rfl (by rw [g_5]) (by decide) ?_
          refine r_aload_n C 57 0 rfl dX11_rings_56 rfl ?_
          refine r_getR C 60 dX11_rings_57 flX11_102 kt_0 rfl rf_0_15 rfl ?_
          refine r_cVpI C 63 [] (ok_f_X4_greatestSize h_3) dX11_rings_60 lvX11_270 kt_126 rfl rfl rfl (by decide) (Nat.le_of_ble_eq_true rfl) rfl rfl (Nat.le_of_ble_eq_true rfl) rfl rfl (fun v_6 => ?_)
          exact r_iret C Rr dX11_rings_63 (fun _ => rfl) rfl
        · refine r_lookup C 64 dX11_rings_20 rfl (lk_none (by intro q hq e; simp only [List.mem_cons, List.not_mem_nil, or_false] at hq; rcases hq with rfl | rfl; (exact g_4 (i32_of e (by decide))); (exact g_5 (i32_of e (by decide))))) (by decide) ?_
          refine r_aload_n C 65 0 rfl dX11_rings_64 rfl ?_
          refine r_getR C 68 dX11_rings_65 flX11_102 kt_0 rfl rf_0_15 rfl ?_
          refine r_getI C 71 dX11_rings_68 flX11_273 kt_126 rfl rfl ?_
          exact r_iret C Rr dX11_rings_71 (fun _ => rfl) rfl
set_option maxHeartbeats 4000000 in
theorem ok_f_X11_rings (x1 : Int32) (x2 : Int32)  (h : CH) : ∀ q, f_X11_rings x1 x2 h = some q → MG yX11_rings cX11_rings 3 (some .int) [] 7 (fun ad => [.ref (ad 0), .int x1, .int x2]) h ((fun (q : Int32 × CH) (_ : Nat → Nat) => some (Value.int q.1)) q) ((fun (q : (Int32 × CH)) => q.2) q) := mg_of RX11 (by decide) rfl (fun _ => Nat.le_of_ble_eq_true rfl) (fun κ C Rr => imp_f_X11_rings C x1 x2 h Rr)
set_option maxHeartbeats 4000000 in
set_option maxRecDepth 100000 in
theorem imp_f_X4_sizeOfPartOf {κ : Kx Int32} (C : Cx κ cX4_sizeOfPartOf RX4 3 1 (40 * 1) []) (x1 : Int32)  (h : CH) (Rr : Rt κ (some .int) (fun (x : Int32) (_ : Nat → Nat) => some (Value.int x)) (fun (_ : Int32) => h)) : Imp κ 0 [(0, .ref (kad κ 126)), (1, .int (x1))] [] h (f_X4_sizeOfPartOf x1 h) := by
  unfold f_X4_sizeOfPartOf
  refine r_iload_n C 1 1 rfl dX4_sizeOfPartOf_0 rfl ?_
  refine imp_jn (fun (j_2 : Int32 → Option Int32) => ∀ (s_1 : Int32), Imp κ 20 [(0, .ref (kad κ 126))] [.int (s_1)] h (j_2 s_1)) ?_ ?_
  · intro s_1
    refine r_istore_n C 21 2 [(2, .int (s_1)), (0, .ref (kad κ 126))] dX4_sizeOfPartOf_20 rfl (by decide) rfl rfl ?_
    refine r_iload_n C 22 0 rfl dX4_sizeOfPartOf_21 rfl ?_
    refine r_if_lt C 25 40 dX4_sizeOfPartOf_22 (by decide) rfl (fun c_3 => ?_) (fun c_3 => ?_)
    · refine r_iconst C 41 (-1) (by decide) dX4_sizeOfPartOf_40 rfl ?_
      exact r_iret C Rr dX4_sizeOfPartOf_41 (fun _ => rfl) rfl
    · refine r_iload_n C 26 0 rfl dX4_sizeOfPartOf_25 rfl ?_
      refine r_bipush C 28 (nI 40) (by decide) dX4_sizeOfPartOf_26 rfl ?_
      refine r_icmp_ge C 31 40 dX4_sizeOfPartOf_28 (by decide) rfl (fun c_4 => ?_) (fun c_4 => ?_)
      · refine r_aload_n C 32 1 rfl dX4_sizeOfPartOf_31 rfl ?_
        refine r_getR C 35 dX4_sizeOfPartOf_32 flX4_15 kt_126 rfl rf_126_3 rfl ?_
        refine r_iload_n C 36 0 rfl dX4_sizeOfPartOf_35 rfl ?_
        refine r_iald C 37 dX4_sizeOfPartOf_36 kt_128 rfl rfl (fun v_5 => ?_)
        refine r_goto C 41 dX4_sizeOfPartOf_37 (by decide) ?_
        exact r_iret C Rr dX4_sizeOfPartOf_41 (fun _ => rfl) rfl
      · refine r_iconst C 41 (-1) (by decide) dX4_sizeOfPartOf_40 rfl ?_
        exact r_iret C Rr dX4_sizeOfPartOf_41 (fun _ => rfl) rfl
  · intro j_2 hj_2
    refine imp_jn (fun (j_6 : Option Int32) =>  Imp κ 19 [(0, .ref (kad κ 126))] [] h (j_6)) ?_ ?_
    · refine r_iconst C 20 (-1) (by decide) dX4_sizeOfPartOf_19 rfl ?_
      exact imp_sub [(0, .ref (kad κ 126))] [0] rfl (hj_2 ((-1)))
    · intro j_6 hj_6
      refine r_if_lt C 4 19 dX4_sizeOfPartOf_1 (by decide) rfl (fun c_7 => ?_) (fun c_7 => ?_)
      · exact imp_sub [(0, .ref (kad κ 126))] [0] rfl (hj_6)
      · refine r_iload_n C 5 1 rfl dX4_sizeOfPartOf_4 rfl ?_
        refine r_bipush C 7 (nI 40) (by decide) dX4_sizeOfPartOf_5 rfl ?_
        refine r_icmp_ge C 10 19 dX4_sizeOfPartOf_7 (by decide) rfl (fun c_8 => ?_) (fun c_8 => ?_)
        · refine r_aload_n C 11 0 rfl dX4_sizeOfPartOf_10 rfl ?_
          refine r_getR C 14 dX4_sizeOfPartOf_11 flX4_9 kt_126 rfl rf_126_2 rfl ?_
          refine r_iload_n C 15 1 rfl dX4_sizeOfPartOf_14 rfl ?_
          refine r_iald C 16 dX4_sizeOfPartOf_15 kt_127 rfl rfl (fun v_9 => ?_)
          refine r_goto C 20 dX4_sizeOfPartOf_16 (by decide) ?_
          exact imp_sub [(0, .ref (kad κ 126))] [0] rfl (hj_2 (v_9))
        · exact imp_sub [(0, .ref (kad κ 126))] [0] rfl (hj_6)
set_option maxHeartbeats 4000000 in
theorem ok_f_X4_sizeOfPartOf (x1 : Int32)  (h : CH) : ∀ q, f_X4_sizeOfPartOf x1 h = some q → MG yX4_sizeOfPartOf cX4_sizeOfPartOf 3 (some .int) [] 1 (fun ad => [.ref (ad 126), .int x1]) h ((fun (x : Int32) (_ : Nat → Nat) => some (Value.int x)) q) ((fun (_ : Int32) => h) q) := mg_of RX4 (by decide) rfl (fun _ => Nat.le_of_ble_eq_true rfl) (fun κ C Rr => imp_f_X4_sizeOfPartOf C x1 h Rr)
set_option maxHeartbeats 4000000 in
set_option maxRecDepth 100000 in
theorem imp_f_X11_ring {κ : Kx (Int32 × CH)} (C : Cx κ cX11_ring RX11 3 7 (40 * 7) []) (x1 : Int32) (x2 : Int32)  (h : CH) (Rr : Rt κ (some .int) (fun (q : Int32 × CH) (_ : Nat → Nat) => some (Value.int q.1)) (fun (q : (Int32 × CH)) => q.2)) : Imp κ 0 [(0, .ref (kad κ 0)), (1, .int (x1)), (2, .int (x2))] [] h (f_X11_ring x1 x2 h) := by
  unfold f_X11_ring
  refine r_aload_n C 1 0 rfl dX11_ring_0 rfl ?_
  refine r_getR C 4 dX11_ring_1 flX11_55 kt_0 rfl rf_0_9 rfl ?_
  refine r_iload_n C 5 1 rfl dX11_ring_4 rfl ?_
  refine r_iload_n C 6 2 rfl dX11_ring_5 rfl ?_
  refine r_cVpI C 9 [] (ok_f_X2_counts_71 x1 x2 h) dX11_ring_6 lvX11_246 kt_71 rfl rfl rfl (by decide) (Nat.le_of_ble_eq_true rfl) rfl rfl (Nat.le_of_ble_eq_true rfl) rfl rfl (fun v_1 => ?_)
  refine r_if_ne C 12 14 dX11_ring_9 (by decide) rfl (fun c_2 => ?_) (fun c_2 => ?_)
  · refine r_iconst C 13 (-1) (by decide) dX11_ring_12 rfl ?_
    exact r_iret C Rr dX11_ring_13 (fun _ => rfl) rfl
  · refine r_aload_n C 15 0 rfl dX11_ring_14 rfl ?_
    refine r_getR C 18 dX11_ring_15 flX11_102 kt_0 rfl rf_0_15 rfl ?_
    refine r_iload_n C 19 2 rfl dX11_ring_18 rfl ?_
    refine r_cViV C 22 [] (ok_f_X4_part x2 h) dX11_ring_19 lvX11_264 kt_126 rfl rfl rfl (by decide) (Nat.le_of_ble_eq_true rfl) rfl rfl (Nat.le_of_ble_eq_true rfl) rfl rfl (fun _ h_3 => ?_)
    refine r_aload_n C 23 0 rfl dX11_ring_22 rfl ?_
    refine r_getR C 26 dX11_ring_23 flX11_102 kt_0 rfl rf_0_15 rfl ?_
    refine r_iload_n C 27 1 rfl dX11_ring_26 rfl ?_
    refine r_cVpI C 30 [] (ok_f_X4_sizeOfPartOf x1 h_3) dX11_ring_27 lvX11_276 kt_126 rfl rfl rfl (by decide) (Nat.le_of_ble_eq_true rfl) rfl rfl (Nat.le_of_ble_eq_true rfl) rfl rfl (fun v_4 => ?_)
    exact r_iret C Rr dX11_ring_30 (fun _ => rfl) rfl
set_option maxHeartbeats 4000000 in
theorem ok_f_X11_ring (x1 : Int32) (x2 : Int32)  (h : CH) : ∀ q, f_X11_ring x1 x2 h = some q → MG yX11_ring cX11_ring 3 (some .int) [] 7 (fun ad => [.ref (ad 0), .int x1, .int x2]) h ((fun (q : Int32 × CH) (_ : Nat → Nat) => some (Value.int q.1)) q) ((fun (q : (Int32 × CH)) => q.2) q) := mg_of RX11 (by decide) rfl (fun _ => Nat.le_of_ble_eq_true rfl) (fun κ C Rr => imp_f_X11_ring C x1 x2 h Rr)
set_option maxHeartbeats 4000000 in
set_option maxRecDepth 100000 in
theorem imp_f_X9_withFriends_7_L4 {κ : Kx Int32} (C : Cx κ cX9_withFriends RX9 4 1 (40 * 1) []) (x1 : Int32) (h : CH)    (Rr : Rt κ (some .int) (fun (x : Int32) (_ : Nat → Nat) => some (Value.int x)) (fun (_ : Int32) => h)) : ∀ (n : Nat) (x2 : Int32) (x3 : Int32), Imp κ 4 [(0, .ref (kad κ 7)), (1, .int (x1)), (2, .int (x2)), (3, .int (x3))] [] h (f_X9_withFriends_7_L4 x1 h n x2 x3) := by
  intro n
  induction n with
  | zero => intros; exact imp_none
  | succ n ih =>
    intro x2 x3
    rw [f_X9_withFriends_7_L4]
    refine r_iload_n C 5 3 rfl dX9_withFriends_4 rfl ?_
    refine r_bipush C 7 (nI 16) (by decide) dX9_withFriends_5 rfl ?_
    refine r_icmp_ge C 10 34 dX9_withFriends_7 (by decide) rfl (fun c_1 => ?_) (fun c_1 => ?_)
    · refine r_iload_n C 11 1 rfl dX9_withFriends_10 rfl ?_
      refine r_iload_n C 12 3 rfl dX9_withFriends_11 rfl ?_
      refine r_ishr C 13 dX9_withFriends_12 rfl ?_
      refine r_iconst C 14 (nI 1) (by decide) dX9_withFriends_13 rfl ?_
      refine r_iand C 15 dX9_withFriends_14 rfl ?_
      refine r_iconst C 16 (nI 1) (by decide) dX9_withFriends_15 rfl ?_
      refine imp_jn (fun (j_3 : Int32 → Option Int32) => ∀ (x2_2 : Int32), Imp κ 28 [(0, .ref (kad κ 7)), (1, .int (x1)), (2, .int (x2_2)), (3, .int (x3))] [] h (j_3 x2_2)) ?_ ?_
      · intro x2_2
        refine r_iinc C 31 3 (nI 1) [(3, .int (x3 + (nI 1))), (0, .ref (kad κ 7)), (1, .int (x1)), (2, .int (x2_2))] dX9_withFriends_28 rfl (by decide) (by decide) rfl rfl ?_
        refine r_goto C 4 dX9_withFriends_31 (by decide) ?_
        exact imp_sub [(0, .ref (kad κ 7)), (1, .int (x1)), (2, .int (x2_2)), (3, .int (x3 + (nI 1)))] [1, 2, 3, 0] rfl (ih (x2_2) (x3 + (nI 1)))
      · intro j_3 hj_3
        refine r_icmp_ne C 19 28 dX9_withFriends_16 (by decide) rfl (fun c_4 => ?_) (fun c_4 => ?_)
        · refine r_iload_n C 20 2 rfl dX9_withFriends_19 rfl ?_
          refine r_aload_n C 21 0 rfl dX9_withFriends_20 rfl ?_
          refine r_getR C 24 dX9_withFriends_21 flX9_40 kt_7 rfl rf_7_8 rfl ?_
          refine r_iload_n C 25 3 rfl dX9_withFriends_24 rfl ?_
          refine r_iald C 26 dX9_withFriends_25 kt_28 rfl rfl (fun v_5 => ?_)
          refine r_ior C 27 dX9_withFriends_26 rfl ?_
          refine r_istore_n C 28 2 [(2, .int ((x2) ||| (v_5))), (0, .ref (kad κ 7)), (1, .int (x1)), (3, .int (x3))] dX9_withFriends_27 rfl (by decide) rfl rfl ?_
          exact imp_sub [(0, .ref (kad κ 7)), (1, .int (x1)), (2, .int ((x2) ||| (v_5))), (3, .int (x3))] [1, 2, 0, 3] rfl (hj_3 ((x2) ||| (v_5)))
        · exact imp_sub [(0, .ref (kad κ 7)), (1, .int (x1)), (2, .int (x2)), (3, .int (x3))] [0, 1, 2, 3] rfl (hj_3 (x2))
    · refine r_iload_n C 35 2 rfl dX9_withFriends_34 rfl ?_
      exact r_iret C Rr dX9_withFriends_35 (fun _ => rfl) rfl
set_option maxHeartbeats 4000000 in
set_option maxRecDepth 100000 in
theorem imp_f_X9_withFriends_7 {κ : Kx Int32} (C : Cx κ cX9_withFriends RX9 4 1 (40 * 1) []) (x1 : Int32)  (h : CH) (Rr : Rt κ (some .int) (fun (x : Int32) (_ : Nat → Nat) => some (Value.int x)) (fun (_ : Int32) => h)) : Imp κ 0 [(0, .ref (kad κ 7)), (1, .int (x1))] [] h (f_X9_withFriends_7 x1 h) := by
  unfold f_X9_withFriends_7
  refine r_iload_n C 1 1 rfl dX9_withFriends_0 rfl ?_
  refine r_istore_n C 2 2 [(2, .int (x1)), (0, .ref (kad κ 7)), (1, .int (x1))] dX9_withFriends_1 rfl (by decide) rfl rfl ?_
  refine r_iconst C 3 (nI 0) (by decide) dX9_withFriends_2 rfl ?_
  refine r_istore_n C 4 3 [(3, .int ((nI 0))), (2, .int (x1)), (0, .ref (kad κ 7)), (1, .int (x1))] dX9_withFriends_3 rfl (by decide) rfl rfl ?_
  refine imp_sub [(0, .ref (kad κ 7)), (1, .int (x1)), (2, .int (x1)), (3, .int ((nI 0)))] [2, 3, 1, 0] rfl ?_
  refine imp_f_X9_withFriends_7_L4 C (x1) h Rr FU (x1) ((nI 0))
set_option maxHeartbeats 4000000 in
theorem ok_f_X9_withFriends_7 (x1 : Int32)  (h : CH) : ∀ q, f_X9_withFriends_7 x1 h = some q → MG yX9_withFriends cX9_withFriends 4 (some .int) [] 1 (fun ad => [.ref (ad 7), .int x1]) h ((fun (x : Int32) (_ : Nat → Nat) => some (Value.int x)) q) ((fun (_ : Int32) => h) q) := mg_of RX9 (by decide) rfl (fun _ => Nat.le_of_ble_eq_true rfl) (fun κ C Rr => imp_f_X9_withFriends_7 C x1 h Rr)
set_option maxHeartbeats 4000000 in
set_option maxRecDepth 100000 in
theorem imp_f_X9_steps_7_L7 {κ : Kx Int32} (C : Cx κ cX9_steps RX9 5 2 (40 * 2) []) (x2 : Int32) (h : CH)    (Rr : Rt κ (some .int) (fun (x : Int32) (_ : Nat → Nat) => some (Value.int x)) (fun (_ : Int32) => h)) : ∀ (n : Nat) (x3 : Int32) (x4 : Int32), Imp κ 7 [(0, .ref (kad κ 7)), (2, .int (x2)), (3, .int (x3)), (4, .int (x4))] [] h (f_X9_steps_7_L7 x2 h n x3 x4) := by
  intro n
  induction n with
  | zero => intros; exact imp_none
  | succ n ih =>
    intro x3 x4
    rw [f_X9_steps_7_L7]
    refine r_iload C 9 3 rfl dX9_steps_7 rfl ?_
    refine r_bipush C 11 (nI 16) (by decide) dX9_steps_9 rfl ?_
    refine r_icmp_ge C 14 38 dX9_steps_11 (by decide) rfl (fun c_1 => ?_) (fun c_1 => ?_)
    · refine r_iload_n C 15 2 rfl dX9_steps_14 rfl ?_
      refine r_iload_n C 16 1 rfl dX9_steps_15 rfl ?_
      refine r_ishr C 17 dX9_steps_16 rfl ?_
      refine r_iconst C 18 (nI 1) (by decide) dX9_steps_17 rfl ?_
      refine r_iand C 19 dX9_steps_18 rfl ?_
      refine r_iconst C 20 (nI 1) (by decide) dX9_steps_19 rfl ?_
      refine r_icmp_ne C 23 26 dX9_steps_20 (by decide) rfl (fun c_2 => ?_) (fun c_2 => ?_)
      · refine r_iload C 25 3 rfl dX9_steps_23 rfl ?_
        exact r_iret C Rr dX9_steps_25 (fun _ => rfl) rfl
      · refine r_aload_n C 27 0 rfl dX9_steps_26 rfl ?_
        refine r_iload_n C 28 2 rfl dX9_steps_27 rfl ?_
        refine r_cVpI C 31 [] (ok_f_X9_withFriends_7 x3 h) dX9_steps_28 lvX9_79 kt_7 rfl rfl rfl (by decide) (Nat.le_of_ble_eq_true rfl) rfl rfl (Nat.le_of_ble_eq_true rfl) rfl rfl (fun v_3 => ?_)
        refine r_istore_n C 32 3 [(3, .int (v_3)), (0, .ref (kad κ 7)), (2, .int (x2)), (4, .int (x4))] dX9_steps_31 rfl (by decide) rfl rfl ?_
        refine r_iinc C 35 3 (nI 1) [(4, .int (x4 + (nI 1))), (3, .int (v_3)), (0, .ref (kad κ 7)), (2, .int (x2))] dX9_steps_32 rfl (by decide) (by decide) rfl rfl ?_
        refine r_goto C 7 dX9_steps_35 (by decide) ?_
        exact imp_sub [(0, .ref (kad κ 7)), (2, .int (x2)), (3, .int (v_3)), (4, .int (x4 + (nI 1)))] [2, 3, 1, 0] rfl (ih (v_3) (x4 + (nI 1)))
    · refine r_iconst C 39 (-1) (by decide) dX9_steps_38 rfl ?_
      exact r_iret C Rr dX9_steps_39 (fun _ => rfl) rfl
set_option maxHeartbeats 4000000 in
set_option maxRecDepth 100000 in
theorem imp_f_X9_steps_7 {κ : Kx Int32} (C : Cx κ cX9_steps RX9 5 2 (40 * 2) []) (x1 : Int32) (x2 : Int32)  (h : CH) (Rr : Rt κ (some .int) (fun (x : Int32) (_ : Nat → Nat) => some (Value.int x)) (fun (_ : Int32) => h)) : Imp κ 0 [(0, .ref (kad κ 7)), (1, .int (x1)), (2, .int (x2))] [] h (f_X9_steps_7 x1 x2 h) := by
  unfold f_X9_steps_7
  refine r_iconst C 1 (nI 1) (by decide) dX9_steps_0 rfl ?_
  refine r_iload_n C 2 1 rfl dX9_steps_1 rfl ?_
  refine r_ishl C 3 dX9_steps_2 rfl ?_
  refine r_istore_n C 4 3 [(3, .int (((nI 1)) <<< ((x1) &&& 31))), (0, .ref (kad κ 7)), (1, .int (x1)), (2, .int (x2))] dX9_steps_3 rfl (by decide) rfl rfl ?_
  refine r_iconst C 5 (nI 0) (by decide) dX9_steps_4 rfl ?_
  refine r_istore C 7 [(4, .int ((nI 0))), (3, .int (((nI 1)) <<< ((x1) &&& 31))), (0, .ref (kad κ 7)), (1, .int (x1)), (2, .int (x2))] dX9_steps_5 (by decide) rfl rfl ?_
  refine imp_sub [(0, .ref (kad κ 7)), (2, .int (x2)), (3, .int (((nI 1)) <<< ((x1) &&& 31))), (4, .int ((nI 0)))] [2, 4, 1, 0] rfl ?_
  refine imp_f_X9_steps_7_L7 C (x2) h Rr FU (((nI 1)) <<< ((x1) &&& 31)) ((nI 0))
set_option maxHeartbeats 4000000 in
theorem ok_f_X9_steps_7 (x1 : Int32) (x2 : Int32)  (h : CH) : ∀ q, f_X9_steps_7 x1 x2 h = some q → MG yX9_steps cX9_steps 5 (some .int) [] 2 (fun ad => [.ref (ad 7), .int x1, .int x2]) h ((fun (x : Int32) (_ : Nat → Nat) => some (Value.int x)) q) ((fun (_ : Int32) => h) q) := mg_of RX9 (by decide) rfl (fun _ => Nat.le_of_ble_eq_true rfl) (fun κ C Rr => imp_f_X9_steps_7 C x1 x2 h Rr)
set_option maxHeartbeats 4000000 in
set_option maxRecDepth 100000 in
theorem imp_f_X11_between {κ : Kx Int32} (C : Cx κ cX11_between RX11 3 3 (40 * 3) []) (x1 : Int32) (x2 : Int32)  (h : CH) (Rr : Rt κ (some .int) (fun (x : Int32) (_ : Nat → Nat) => some (Value.int x)) (fun (_ : Int32) => h)) : Imp κ 0 [(0, .ref (kad κ 0)), (1, .int (x1)), (2, .int (x2))] [] h (f_X11_between x1 x2 h) := by
  unfold f_X11_between
  refine r_aload_n C 1 0 rfl dX11_between_0 rfl ?_
  refine r_getR C 4 dX11_between_1 flX11_35 kt_0 rfl rf_0_5 rfl ?_
  refine r_iload_n C 5 1 rfl dX11_between_4 rfl ?_
  refine r_cVpI C 8 [] (ok_f_X9_has_7 x1 h) dX11_between_5 lvX11_160 kt_7 rfl rfl rfl (by decide) (Nat.le_of_ble_eq_true rfl) rfl rfl (Nat.le_of_ble_eq_true rfl) rfl rfl (fun v_1 => ?_)
  refine r_if_eq C 11 22 dX11_between_8 (by decide) rfl (fun c_2 => ?_) (fun c_2 => ?_)
  · refine r_iconst C 23 (-1) (by decide) dX11_between_22 rfl ?_
    exact r_iret C Rr dX11_between_23 (fun _ => rfl) rfl
  · refine r_aload_n C 12 0 rfl dX11_between_11 rfl ?_
    refine r_getR C 15 dX11_between_12 flX11_35 kt_0 rfl rf_0_5 rfl ?_
    refine r_iload_n C 16 2 rfl dX11_between_15 rfl ?_
    refine r_cVpI C 19 [] (ok_f_X9_has_7 x2 h) dX11_between_16 lvX11_160 kt_7 rfl rfl rfl (by decide) (Nat.le_of_ble_eq_true rfl) rfl rfl (Nat.le_of_ble_eq_true rfl) rfl rfl (fun v_3 => ?_)
    refine r_if_ne C 22 24 dX11_between_19 (by decide) rfl (fun c_4 => ?_) (fun c_4 => ?_)
    · refine r_iconst C 23 (-1) (by decide) dX11_between_22 rfl ?_
      exact r_iret C Rr dX11_between_23 (fun _ => rfl) rfl
    · refine r_aload_n C 25 0 rfl dX11_between_24 rfl ?_
      refine r_getR C 28 dX11_between_25 flX11_35 kt_0 rfl rf_0_5 rfl ?_
      refine r_iload_n C 29 1 rfl dX11_between_28 rfl ?_
      refine r_iload_n C 30 2 rfl dX11_between_29 rfl ?_
      refine r_cVpI C 33 [] (ok_f_X9_steps_7 x1 x2 h) dX11_between_30 lvX11_279 kt_7 rfl rfl rfl (by decide) (Nat.le_of_ble_eq_true rfl) rfl rfl (Nat.le_of_ble_eq_true rfl) rfl rfl (fun v_5 => ?_)
      exact r_iret C Rr dX11_between_33 (fun _ => rfl) rfl
set_option maxHeartbeats 4000000 in
theorem ok_f_X11_between (x1 : Int32) (x2 : Int32)  (h : CH) : ∀ q, f_X11_between x1 x2 h = some q → MG yX11_between cX11_between 3 (some .int) [] 3 (fun ad => [.ref (ad 0), .int x1, .int x2]) h ((fun (x : Int32) (_ : Nat → Nat) => some (Value.int x)) q) ((fun (_ : Int32) => h) q) := mg_of RX11 (by decide) rfl (fun _ => Nat.le_of_ble_eq_true rfl) (fun κ C Rr => imp_f_X11_between C x1 x2 h Rr)
set_option maxHeartbeats 4000000 in
set_option maxRecDepth 100000 in
theorem imp_f_X2_isMixed_71 {κ : Kx Int32} (C : Cx κ cX2_isMixed RX2 3 3 (40 * 3) []) (x1 : Int32)  (h : CH) (Rr : Rt κ (some .boolean) (fun (x : Int32) (_ : Nat → Nat) => some (Value.int x)) (fun (_ : Int32) => h)) : Imp κ 0 [(0, .ref (kad κ 71)), (1, .int (x1))] [] h (f_X2_isMixed_71 x1 h) := by
  unfold f_X2_isMixed_71
  refine r_aload_n C 1 0 rfl dX2_isMixed_0 rfl ?_
  refine r_iload_n C 2 1 rfl dX2_isMixed_1 rfl ?_
  refine r_cVpI C 5 [] (ok_f_X2_shareOf_71 x1 h) dX2_isMixed_2 lvX2_45 kt_71 rfl rfl rfl (by decide) (Nat.le_of_ble_eq_true rfl) rfl rfl (Nat.le_of_ble_eq_true rfl) rfl rfl (fun v_1 => ?_)
  refine r_istore_n C 6 2 [(2, .int (v_1)), (0, .ref (kad κ 71)), (1, .int (x1))] dX2_isMixed_5 rfl (by decide) rfl rfl ?_
  refine r_aload_n C 7 1 rfl dX2_isMixed_6 rfl ?_
  refine r_iload_n C 8 2 rfl dX2_isMixed_7 rfl ?_
  refine r_cVpI C 11 [] (ok_f_X2_faceOf_71 x1 h) dX2_isMixed_8 lvX2_49 kt_71 rfl rfl rfl (by decide) (Nat.le_of_ble_eq_true rfl) rfl rfl (Nat.le_of_ble_eq_true rfl) rfl rfl (fun v_2 => ?_)
  refine r_aload_n C 12 1 rfl dX2_isMixed_11 rfl ?_
  refine r_iload_n C 13 2 rfl dX2_isMixed_12 rfl ?_
  refine r_cVpI C 16 [.int (v_2)] (ok_f_X2_otherOf_71 x1 h) dX2_isMixed_13 lvX2_52 kt_71 rfl rfl rfl (by decide) (Nat.le_of_ble_eq_true rfl) rfl rfl (Nat.le_of_ble_eq_true rfl) rfl rfl (fun v_3 => ?_)
  refine r_icmp_eq C 19 34 dX2_isMixed_16 (by decide) rfl (fun c_4 => ?_) (fun c_4 => ?_)
  · refine r_iconst C 35 (nI 0) (by decide) dX2_isMixed_34 rfl ?_
    exact r_zret C Rr (by decide) dX2_isMixed_35 (fun _ => rfl) rfl
  · refine r_iload_n C 20 0 rfl dX2_isMixed_19 rfl ?_
    refine r_iconst C 21 (nI 1) (by decide) dX2_isMixed_20 rfl ?_
    refine r_icmp_lt C 24 34 dX2_isMixed_21 (by decide) rfl (fun c_5 => ?_) (fun c_5 => ?_)
    · refine r_iconst C 35 (nI 0) (by decide) dX2_isMixed_34 rfl ?_
      exact r_zret C Rr (by decide) dX2_isMixed_35 (fun _ => rfl) rfl
    · refine r_iload_n C 25 0 rfl dX2_isMixed_24 rfl ?_
      refine r_bipush C 27 (nI 10) (by decide) dX2_isMixed_25 rfl ?_
      refine r_icmp_ge C 30 34 dX2_isMixed_27 (by decide) rfl (fun c_6 => ?_) (fun c_6 => ?_)
      · refine r_iconst C 31 (nI 1) (by decide) dX2_isMixed_30 rfl ?_
        refine r_goto C 35 dX2_isMixed_31 (by decide) ?_
        exact r_zret C Rr (by decide) dX2_isMixed_35 (fun _ => rfl) rfl
      · refine r_iconst C 35 (nI 0) (by decide) dX2_isMixed_34 rfl ?_
        exact r_zret C Rr (by decide) dX2_isMixed_35 (fun _ => rfl) rfl
set_option maxHeartbeats 4000000 in
theorem ok_f_X2_isMixed_71 (x1 : Int32)  (h : CH) : ∀ q, f_X2_isMixed_71 x1 h = some q → MG yX2_isMixed cX2_isMixed 3 (some .boolean) [] 3 (fun ad => [.ref (ad 71), .int x1]) h ((fun (x : Int32) (_ : Nat → Nat) => some (Value.int x)) q) ((fun (_ : Int32) => h) q) := mg_of RX2 (by decide) rfl (fun _ => Nat.le_of_ble_eq_true rfl) (fun κ C Rr => imp_f_X2_isMixed_71 C x1 h Rr)
set_option maxHeartbeats 4000000 in
set_option maxRecDepth 100000 in
theorem imp_f_X7_countShowing_L22 {κ : Kx (Unit × CH)} (C : Cx κ cX7_countShowing RX7 5 5 (40 * 5) []) (x1 : Int32)    (Rr : Rt κ none (fun (_ : Unit × CH) (_ : Nat → Nat) => (none : Option Value)) (fun (q : (Unit × CH)) => q.2)) : ∀ (n : Nat) (x2 : Int32) (h : CH), Imp κ 22 [(0, .ref (kad κ 121)), (1, .int (x1)), (2, .int (x2))] [] h (f_X7_countShowing_L22 x1 n x2 h) := by
  intro n
  induction n with
  | zero => intros; exact imp_none
  | succ n ih =>
    intro x2 h
    rw [f_X7_countShowing_L22]
    refine r_iload_n C 23 2 rfl dX7_countShowing_22 rfl ?_
    refine r_aload_n C 24 0 rfl dX7_countShowing_23 rfl ?_
    refine r_getR C 27 dX7_countShowing_24 flX7_44 kt_121 rfl rf_121_1 rfl ?_
    refine r_getI C 30 dX7_countShowing_27 flX7_111 kt_71 rfl rfl ?_
    refine r_icmp_ge C 33 133 dX7_countShowing_30 (by decide) rfl (fun c_3 => ?_) (fun c_3 => ?_)
    · refine r_aload_n C 34 0 rfl dX7_countShowing_33 rfl ?_
      refine r_getR C 37 dX7_countShowing_34 flX7_44 kt_121 rfl rf_121_1 rfl ?_
      refine r_iload_n C 38 2 rfl dX7_countShowing_37 rfl ?_
      refine r_cVpI C 41 [] (ok_f_X2_printerOf_71 x2 h) dX7_countShowing_38 lvX7_52 kt_71 rfl rfl rfl (by decide) (Nat.le_of_ble_eq_true rfl) rfl rfl (Nat.le_of_ble_eq_true rfl) rfl rfl (fun v_4 => ?_)
      refine r_istore_n C 42 3 [(3, .int (v_4)), (0, .ref (kad κ 121)), (1, .int (x1)), (2, .int (x2))] dX7_countShowing_41 rfl (by decide) rfl rfl ?_
      refine r_iload_n C 43 0 rfl dX7_countShowing_42 rfl ?_
      refine imp_jn (fun (j_6 : CH → Option (Unit × CH)) => ∀ (h_5 : CH), Imp κ 127 [(0, .ref (kad κ 121)), (1, .int (x1)), (2, .int (x2))] [] h_5 (j_6 h_5)) ?_ ?_
      · intro h_5
        refine r_iinc C 130 2 (nI 1) [(2, .int (x2 + (nI 1))), (0, .ref (kad κ 121)), (1, .int (x1))] dX7_countShowing_127 rfl (by decide) (by decide) rfl rfl ?_
        refine r_goto C 22 dX7_countShowing_130 (by decide) ?_
        exact imp_sub [(0, .ref (kad κ 121)), (1, .int (x1)), (2, .int (x2 + (nI 1)))] [1, 2, 0] rfl (ih (x2 + (nI 1)) h_5)
      · intro j_6 hj_6
        refine r_if_lt C 46 127 dX7_countShowing_43 (by decide) rfl (fun c_7 => ?_) (fun c_7 => ?_)
        · exact imp_sub [(0, .ref (kad κ 121)), (1, .int (x1)), (2, .int (x2))] [1, 2, 3] rfl (hj_6 h)
        · refine r_iload_n C 47 0 rfl dX7_countShowing_46 rfl ?_
          refine r_iconst C 48 (nI 4) (by decide) dX7_countShowing_47 rfl ?_
          refine r_icmp_ge C 51 127 dX7_countShowing_48 (by decide) rfl (fun c_8 => ?_) (fun c_8 => ?_)
          · refine r_aload_n C 52 1 rfl dX7_countShowing_51 rfl ?_
            refine r_getR C 55 dX7_countShowing_52 flX7_44 kt_121 rfl rf_121_1 rfl ?_
            refine r_iload_n C 56 3 rfl dX7_countShowing_55 rfl ?_
            refine r_iload_n C 57 2 rfl dX7_countShowing_56 rfl ?_
            refine r_cVpI C 60 [] (ok_f_X2_counts_71 x2 x1 h) dX7_countShowing_57 lvX7_114 kt_71 rfl rfl rfl (by decide) (Nat.le_of_ble_eq_true rfl) rfl rfl (Nat.le_of_ble_eq_true rfl) rfl rfl (fun v_9 => ?_)
            refine r_if_eq C 63 127 dX7_countShowing_60 (by decide) rfl (fun c_10 => ?_) (fun c_10 => ?_)
            · exact imp_sub [(0, .ref (kad κ 121)), (1, .int (x1)), (2, .int (x2))] [1, 2, 3] rfl (hj_6 h)
            · refine r_aload_n C 64 1 rfl dX7_countShowing_63 rfl ?_
              refine r_getR C 67 dX7_countShowing_64 flX7_44 kt_121 rfl rf_121_1 rfl ?_
              refine r_iload_n C 68 3 rfl dX7_countShowing_67 rfl ?_
              refine r_cVpI C 71 [] (ok_f_X2_isMixed_71 x2 h) dX7_countShowing_68 lvX7_118 kt_71 rfl rfl rfl (by decide) (Nat.le_of_ble_eq_true rfl) rfl rfl (Nat.le_of_ble_eq_true rfl) rfl rfl (fun v_11 => ?_)
              refine r_if_eq C 74 127 dX7_countShowing_71 (by decide) rfl (fun c_12 => ?_) (fun c_12 => ?_)
              · exact imp_sub [(0, .ref (kad κ 121)), (1, .int (x1)), (2, .int (x2))] [1, 2, 3] rfl (hj_6 h)
              · refine r_aload_n C 75 1 rfl dX7_countShowing_74 rfl ?_
                refine r_getR C 78 dX7_countShowing_75 flX7_48 kt_121 rfl rf_121_2 rfl ?_
                refine r_aload_n C 79 1 rfl dX7_countShowing_78 rfl ?_
                refine r_getR C 82 dX7_countShowing_79 flX7_44 kt_121 rfl rf_121_1 rfl ?_
                refine r_iload_n C 83 3 rfl dX7_countShowing_82 rfl ?_
                refine r_cVpI C 86 [.ref (kad κ 79)] (ok_f_X2_faceOf_71 x2 h) dX7_countShowing_83 lvX7_58 kt_71 rfl rfl rfl (by decide) (Nat.le_of_ble_eq_true rfl) rfl rfl (Nat.le_of_ble_eq_true rfl) rfl rfl (fun v_13 => ?_)
                refine r_aload_n C 87 1 rfl dX7_countShowing_86 rfl ?_
                refine r_getR C 90 dX7_countShowing_87 flX7_44 kt_121 rfl rf_121_1 rfl ?_
                refine r_iload_n C 91 3 rfl dX7_countShowing_90 rfl ?_
                refine r_cVpI C 94 [.int (v_13), .ref (kad κ 79)] (ok_f_X2_otherOf_71 x2 h) dX7_countShowing_91 lvX7_61 kt_71 rfl rfl rfl (by decide) (Nat.le_of_ble_eq_true rfl) rfl rfl (Nat.le_of_ble_eq_true rfl) rfl rfl (fun v_14 => ?_)
                refine r_aload_n C 95 1 rfl dX7_countShowing_94 rfl ?_
                refine r_getR C 98 dX7_countShowing_95 flX7_44 kt_121 rfl rf_121_1 rfl ?_
                refine r_iload_n C 99 3 rfl dX7_countShowing_98 rfl ?_
                refine r_cVpI C 102 [.int (v_14), .int (v_13), .ref (kad κ 79)] (ok_f_X2_shareOf_71 x2 h) dX7_countShowing_99 lvX7_64 kt_71 rfl rfl rfl (by decide) (Nat.le_of_ble_eq_true rfl) rfl rfl (Nat.le_of_ble_eq_true rfl) rfl rfl (fun v_15 => ?_)
                refine r_iload_n C 103 0 rfl dX7_countShowing_102 rfl ?_
                refine r_cViI C 106 [] (ok_f_X0_shown v_13 v_14 v_15 v_4 h) dX7_countShowing_103 lvX7_121 kt_79 rfl rfl rfl (by decide) (Nat.le_of_ble_eq_true rfl) rfl rfl (Nat.le_of_ble_eq_true rfl) rfl rfl (fun v_16 h_17 => ?_)
                refine r_istore C 108 [(4, .int (v_16)), (3, .int (v_4)), (0, .ref (kad κ 121)), (1, .int (x1)), (2, .int (x2))] dX7_countShowing_106 (by decide) rfl rfl ?_
                refine r_aload_n C 109 2 rfl dX7_countShowing_108 rfl ?_
                refine r_getR C 112 dX7_countShowing_109 flX7_21 kt_121 rfl rf_121_6 rfl ?_
                refine r_iload_n C 113 1 rfl dX7_countShowing_112 rfl ?_
                refine r_dup2 C 114 rfl rfl dX7_countShowing_113 rfl ?_
                refine r_iald C 115 dX7_countShowing_114 kt_125 rfl rfl (fun v_18 => ?_)
                refine r_iload C 117 0 rfl dX7_countShowing_115 rfl ?_
                refine imp_jn (fun (j_22 : Int32 → Int32 → Int32 → Option (Unit × CH)) => ∀ (s_19 : Int32) (s_20 : Int32) (s_21 : Int32), Imp κ 125 [(0, .ref (kad κ 121)), (1, .int (x1)), (2, .int (x2))] [.int (s_19), .int (s_20), .int (s_21), .ref (kad κ 125)] h_17 (j_22 s_19 s_20 s_21)) ?_ ?_
                · intro s_19 s_20 s_21
                  refine r_iadd C 126 dX7_countShowing_125 rfl ?_
                  refine r_iast C 127 dX7_countShowing_126 kt_125 rfl rfl (fun h_23 => ?_)
                  exact imp_sub [(0, .ref (kad κ 121)), (1, .int (x1)), (2, .int (x2))] [0, 1, 2] rfl (hj_6 h_23)
                · intro j_22 hj_22
                  refine r_if_ne C 120 124 dX7_countShowing_117 (by decide) rfl (fun c_24 => ?_) (fun c_24 => ?_)
                  · refine r_iconst C 121 (nI 0) (by decide) dX7_countShowing_120 rfl ?_
                    refine r_goto C 125 dX7_countShowing_121 (by decide) ?_
                    exact imp_sub [(0, .ref (kad κ 121)), (1, .int (x1)), (2, .int (x2))] [2, 3, 4] rfl (hj_22 ((nI 0)) (v_18) (v_4))
                  · refine r_iconst C 125 (nI 1) (by decide) dX7_countShowing_124 rfl ?_
                    exact imp_sub [(0, .ref (kad κ 121)), (1, .int (x1)), (2, .int (x2))] [2, 3, 4] rfl (hj_22 ((nI 1)) (v_18) (v_4))
          · exact imp_sub [(0, .ref (kad κ 121)), (1, .int (x1)), (2, .int (x2))] [1, 2, 3] rfl (hj_6 h)
    · exact r_vret C Rr dX7_countShowing_133 (fun _ => rfl) rfl
set_option maxHeartbeats 4000000 in
set_option maxRecDepth 100000 in
theorem imp_f_X7_countShowing_L2 {κ : Kx (Unit × CH)} (C : Cx κ cX7_countShowing RX7 5 5 (40 * 5) []) (x1 : Int32)    (Rr : Rt κ none (fun (_ : Unit × CH) (_ : Nat → Nat) => (none : Option Value)) (fun (q : (Unit × CH)) => q.2)) : ∀ (n : Nat) (x2 : Int32) (h : CH), Imp κ 2 [(0, .ref (kad κ 121)), (1, .int (x1)), (2, .int (x2))] [] h (f_X7_countShowing_L2 x1 n x2 h) := by
  intro n
  induction n with
  | zero => intros; exact imp_none
  | succ n ih =>
    intro x2 h
    rw [f_X7_countShowing_L2]
    refine r_iload_n C 3 2 rfl dX7_countShowing_2 rfl ?_
    refine r_iconst C 4 (nI 4) (by decide) dX7_countShowing_3 rfl ?_
    refine r_icmp_ge C 7 20 dX7_countShowing_4 (by decide) rfl (fun c_1 => ?_) (fun c_1 => ?_)
    · refine r_aload_n C 8 0 rfl dX7_countShowing_7 rfl ?_
      refine r_getR C 11 dX7_countShowing_8 flX7_21 kt_121 rfl rf_121_6 rfl ?_
      refine r_iload_n C 12 2 rfl dX7_countShowing_11 rfl ?_
      refine r_iconst C 13 (nI 0) (by decide) dX7_countShowing_12 rfl ?_
      refine r_iast C 14 dX7_countShowing_13 kt_125 rfl rfl (fun h_2 => ?_)
      refine r_iinc C 17 2 (nI 1) [(2, .int (x2 + (nI 1))), (0, .ref (kad κ 121)), (1, .int (x1))] dX7_countShowing_14 rfl (by decide) (by decide) rfl rfl ?_
      refine r_goto C 2 dX7_countShowing_17 (by decide) ?_
      exact imp_sub [(0, .ref (kad κ 121)), (1, .int (x1)), (2, .int (x2 + (nI 1)))] [1, 2, 0] rfl (ih (x2 + (nI 1)) h_2)
    · refine r_iconst C 21 (nI 0) (by decide) dX7_countShowing_20 rfl ?_
      refine r_istore_n C 22 2 [(2, .int ((nI 0))), (0, .ref (kad κ 121)), (1, .int (x1))] dX7_countShowing_21 rfl (by decide) rfl rfl ?_
      refine imp_sub [(0, .ref (kad κ 121)), (1, .int (x1)), (2, .int ((nI 0)))] [1, 2, 0] rfl ?_
      refine imp_f_X7_countShowing_L22 C (x1) Rr FU ((nI 0)) h
set_option maxHeartbeats 4000000 in
set_option maxRecDepth 100000 in
theorem imp_f_X7_countShowing {κ : Kx (Unit × CH)} (C : Cx κ cX7_countShowing RX7 5 5 (40 * 5) []) (x1 : Int32)  (h : CH) (Rr : Rt κ none (fun (_ : Unit × CH) (_ : Nat → Nat) => (none : Option Value)) (fun (q : (Unit × CH)) => q.2)) : Imp κ 0 [(0, .ref (kad κ 121)), (1, .int (x1))] [] h (f_X7_countShowing x1 h) := by
  unfold f_X7_countShowing
  refine r_iconst C 1 (nI 0) (by decide) dX7_countShowing_0 rfl ?_
  refine r_istore_n C 2 2 [(2, .int ((nI 0))), (0, .ref (kad κ 121)), (1, .int (x1))] dX7_countShowing_1 rfl (by decide) rfl rfl ?_
  refine imp_sub [(0, .ref (kad κ 121)), (1, .int (x1)), (2, .int ((nI 0)))] [1, 2, 0] rfl ?_
  refine imp_f_X7_countShowing_L2 C (x1) Rr FU ((nI 0)) h
set_option maxHeartbeats 4000000 in
theorem ok_f_X7_countShowing (x1 : Int32)  (h : CH) : ∀ q, f_X7_countShowing x1 h = some q → MG yX7_countShowing cX7_countShowing 5 none [] 5 (fun ad => [.ref (ad 121), .int x1]) h ((fun (_ : Unit × CH) (_ : Nat → Nat) => (none : Option Value)) q) ((fun (q : (Unit × CH)) => q.2) q) := mg_of RX7 (by decide) rfl (fun _ => Nat.le_of_ble_eq_true rfl) (fun κ C Rr => imp_f_X7_countShowing C x1 h Rr)
set_option maxHeartbeats 4000000 in
set_option maxRecDepth 100000 in
theorem imp_f_X7_showingOf_L4 {κ : Kx Int32} (C : Cx κ cX7_showingOf RX7 4 1 (40 * 1) []) (x1 : Int32) (h : CH)    (Rr : Rt κ (some .int) (fun (x : Int32) (_ : Nat → Nat) => some (Value.int x)) (fun (_ : Int32) => h)) : ∀ (n : Nat) (x2 : Int32) (x3 : Int32), Imp κ 4 [(0, .ref (kad κ 121)), (1, .int (x1)), (2, .int (x2)), (3, .int (x3))] [] h (f_X7_showingOf_L4 x1 h n x2 x3) := by
  intro n
  induction n with
  | zero => intros; exact imp_none
  | succ n ih =>
    intro x2 x3
    rw [f_X7_showingOf_L4]
    refine r_iload_n C 5 3 rfl dX7_showingOf_4 rfl ?_
    refine r_iconst C 6 (nI 4) (by decide) dX7_showingOf_5 rfl ?_
    refine r_icmp_ge C 9 33 dX7_showingOf_6 (by decide) rfl (fun c_1 => ?_) (fun c_1 => ?_)
    · refine r_iload_n C 10 1 rfl dX7_showingOf_9 rfl ?_
      refine r_iload_n C 11 3 rfl dX7_showingOf_10 rfl ?_
      refine r_ishr C 12 dX7_showingOf_11 rfl ?_
      refine r_iconst C 13 (nI 1) (by decide) dX7_showingOf_12 rfl ?_
      refine r_iand C 14 dX7_showingOf_13 rfl ?_
      refine r_iconst C 15 (nI 1) (by decide) dX7_showingOf_14 rfl ?_
      refine imp_jn (fun (j_3 : Int32 → Option Int32) => ∀ (x2_2 : Int32), Imp κ 27 [(0, .ref (kad κ 121)), (1, .int (x1)), (2, .int (x2_2)), (3, .int (x3))] [] h (j_3 x2_2)) ?_ ?_
      · intro x2_2
        refine r_iinc C 30 3 (nI 1) [(3, .int (x3 + (nI 1))), (0, .ref (kad κ 121)), (1, .int (x1)), (2, .int (x2_2))] dX7_showingOf_27 rfl (by decide) (by decide) rfl rfl ?_
        refine r_goto C 4 dX7_showingOf_30 (by decide) ?_
        exact imp_sub [(0, .ref (kad κ 121)), (1, .int (x1)), (2, .int (x2_2)), (3, .int (x3 + (nI 1)))] [1, 2, 3, 0] rfl (ih (x2_2) (x3 + (nI 1)))
      · intro j_3 hj_3
        refine r_icmp_ne C 18 27 dX7_showingOf_15 (by decide) rfl (fun c_4 => ?_) (fun c_4 => ?_)
        · refine r_iload_n C 19 2 rfl dX7_showingOf_18 rfl ?_
          refine r_aload_n C 20 0 rfl dX7_showingOf_19 rfl ?_
          refine r_getR C 23 dX7_showingOf_20 flX7_21 kt_121 rfl rf_121_6 rfl ?_
          refine r_iload_n C 24 3 rfl dX7_showingOf_23 rfl ?_
          refine r_iald C 25 dX7_showingOf_24 kt_125 rfl rfl (fun v_5 => ?_)
          refine r_iadd C 26 dX7_showingOf_25 rfl ?_
          refine r_istore_n C 27 2 [(2, .int ((x2) + (v_5))), (0, .ref (kad κ 121)), (1, .int (x1)), (3, .int (x3))] dX7_showingOf_26 rfl (by decide) rfl rfl ?_
          exact imp_sub [(0, .ref (kad κ 121)), (1, .int (x1)), (2, .int ((x2) + (v_5))), (3, .int (x3))] [1, 2, 0, 3] rfl (hj_3 ((x2) + (v_5)))
        · exact imp_sub [(0, .ref (kad κ 121)), (1, .int (x1)), (2, .int (x2)), (3, .int (x3))] [0, 1, 2, 3] rfl (hj_3 (x2))
    · refine r_iload_n C 34 2 rfl dX7_showingOf_33 rfl ?_
      exact r_iret C Rr dX7_showingOf_34 (fun _ => rfl) rfl
set_option maxHeartbeats 4000000 in
set_option maxRecDepth 100000 in
theorem imp_f_X7_showingOf {κ : Kx Int32} (C : Cx κ cX7_showingOf RX7 4 1 (40 * 1) []) (x1 : Int32)  (h : CH) (Rr : Rt κ (some .int) (fun (x : Int32) (_ : Nat → Nat) => some (Value.int x)) (fun (_ : Int32) => h)) : Imp κ 0 [(0, .ref (kad κ 121)), (1, .int (x1))] [] h (f_X7_showingOf x1 h) := by
  unfold f_X7_showingOf
  refine r_iconst C 1 (nI 0) (by decide) dX7_showingOf_0 rfl ?_
  refine r_istore_n C 2 2 [(2, .int ((nI 0))), (0, .ref (kad κ 121)), (1, .int (x1))] dX7_showingOf_1 rfl (by decide) rfl rfl ?_
  refine r_iconst C 3 (nI 0) (by decide) dX7_showingOf_2 rfl ?_
  refine r_istore_n C 4 3 [(3, .int ((nI 0))), (2, .int ((nI 0))), (0, .ref (kad κ 121)), (1, .int (x1))] dX7_showingOf_3 rfl (by decide) rfl rfl ?_
  refine imp_sub [(0, .ref (kad κ 121)), (1, .int (x1)), (2, .int ((nI 0))), (3, .int ((nI 0)))] [2, 3, 1, 0] rfl ?_
  refine imp_f_X7_showingOf_L4 C (x1) h Rr FU ((nI 0)) ((nI 0))
set_option maxHeartbeats 4000000 in
theorem ok_f_X7_showingOf (x1 : Int32)  (h : CH) : ∀ q, f_X7_showingOf x1 h = some q → MG yX7_showingOf cX7_showingOf 4 (some .int) [] 1 (fun ad => [.ref (ad 121), .int x1]) h ((fun (x : Int32) (_ : Nat → Nat) => some (Value.int x)) q) ((fun (_ : Int32) => h) q) := mg_of RX7 (by decide) rfl (fun _ => Nat.le_of_ble_eq_true rfl) (fun κ C Rr => imp_f_X7_showingOf C x1 h Rr)
set_option maxHeartbeats 4000000 in
set_option maxRecDepth 100000 in
theorem imp_f_X9_costOf_7 {κ : Kx Int32} (C : Cx κ cX9_costOf RX9 2 1 (40 * 1) []) (x1 : Int32)  (h : CH) (Rr : Rt κ (some .int) (fun (x : Int32) (_ : Nat → Nat) => some (Value.int x)) (fun (_ : Int32) => h)) : Imp κ 0 [(0, .ref (kad κ 7)), (1, .int (x1))] [] h (f_X9_costOf_7 x1 h) := by
  unfold f_X9_costOf_7
  refine r_iload_n C 1 1 rfl dX9_costOf_0 rfl ?_
  refine r_if_lt C 4 18 dX9_costOf_1 (by decide) rfl (fun c_1 => ?_) (fun c_1 => ?_)
  · refine r_iconst C 19 (nI 0) (by decide) dX9_costOf_18 rfl ?_
    exact r_iret C Rr dX9_costOf_19 (fun _ => rfl) rfl
  · refine r_iload_n C 5 1 rfl dX9_costOf_4 rfl ?_
    refine r_iconst C 6 (nI 4) (by decide) dX9_costOf_5 rfl ?_
    refine r_icmp_ge C 9 18 dX9_costOf_6 (by decide) rfl (fun c_2 => ?_) (fun c_2 => ?_)
    · refine r_aload_n C 10 0 rfl dX9_costOf_9 rfl ?_
      refine r_getR C 13 dX9_costOf_10 flX9_46 kt_7 rfl rf_7_10 rfl ?_
      refine r_iload_n C 14 1 rfl dX9_costOf_13 rfl ?_
      refine r_iald C 15 dX9_costOf_14 kt_30 rfl rfl (fun v_3 => ?_)
      refine r_goto C 19 dX9_costOf_15 (by decide) ?_
      exact r_iret C Rr dX9_costOf_19 (fun _ => rfl) rfl
    · refine r_iconst C 19 (nI 0) (by decide) dX9_costOf_18 rfl ?_
      exact r_iret C Rr dX9_costOf_19 (fun _ => rfl) rfl
set_option maxHeartbeats 4000000 in
theorem ok_f_X9_costOf_7 (x1 : Int32)  (h : CH) : ∀ q, f_X9_costOf_7 x1 h = some q → MG yX9_costOf cX9_costOf 2 (some .int) [] 1 (fun ad => [.ref (ad 7), .int x1]) h ((fun (x : Int32) (_ : Nat → Nat) => some (Value.int x)) q) ((fun (_ : Int32) => h) q) := mg_of RX9 (by decide) rfl (fun _ => Nat.le_of_ble_eq_true rfl) (fun κ C Rr => imp_f_X9_costOf_7 C x1 h Rr)
set_option maxHeartbeats 4000000 in
set_option maxRecDepth 100000 in
theorem imp_f_X7_costOf_L4 {κ : Kx Int32} (C : Cx κ cX7_costOf RX7 4 2 (40 * 2) []) (x1 : Int32) (h : CH)    (Rr : Rt κ (some .int) (fun (x : Int32) (_ : Nat → Nat) => some (Value.int x)) (fun (_ : Int32) => h)) : ∀ (n : Nat) (x2 : Int32) (x3 : Int32), Imp κ 4 [(0, .ref (kad κ 121)), (1, .int (x1)), (2, .int (x2)), (3, .int (x3))] [] h (f_X7_costOf_L4 x1 h n x2 x3) := by
  intro n
  induction n with
  | zero => intros; exact imp_none
  | succ n ih =>
    intro x2 x3
    rw [f_X7_costOf_L4]
    refine r_iload_n C 5 3 rfl dX7_costOf_4 rfl ?_
    refine r_iconst C 6 (nI 4) (by decide) dX7_costOf_5 rfl ?_
    refine r_icmp_ge C 9 35 dX7_costOf_6 (by decide) rfl (fun c_1 => ?_) (fun c_1 => ?_)
    · refine r_iload_n C 10 1 rfl dX7_costOf_9 rfl ?_
      refine r_iload_n C 11 3 rfl dX7_costOf_10 rfl ?_
      refine r_ishr C 12 dX7_costOf_11 rfl ?_
      refine r_iconst C 13 (nI 1) (by decide) dX7_costOf_12 rfl ?_
      refine r_iand C 14 dX7_costOf_13 rfl ?_
      refine r_iconst C 15 (nI 1) (by decide) dX7_costOf_14 rfl ?_
      refine imp_jn (fun (j_3 : Int32 → Option Int32) => ∀ (x2_2 : Int32), Imp κ 29 [(0, .ref (kad κ 121)), (1, .int (x1)), (2, .int (x2_2)), (3, .int (x3))] [] h (j_3 x2_2)) ?_ ?_
      · intro x2_2
        refine r_iinc C 32 3 (nI 1) [(3, .int (x3 + (nI 1))), (0, .ref (kad κ 121)), (1, .int (x1)), (2, .int (x2_2))] dX7_costOf_29 rfl (by decide) (by decide) rfl rfl ?_
        refine r_goto C 4 dX7_costOf_32 (by decide) ?_
        exact imp_sub [(0, .ref (kad κ 121)), (1, .int (x1)), (2, .int (x2_2)), (3, .int (x3 + (nI 1)))] [1, 2, 3, 0] rfl (ih (x2_2) (x3 + (nI 1)))
      · intro j_3 hj_3
        refine r_icmp_ne C 18 29 dX7_costOf_15 (by decide) rfl (fun c_4 => ?_) (fun c_4 => ?_)
        · refine r_iload_n C 19 2 rfl dX7_costOf_18 rfl ?_
          refine r_aload_n C 20 0 rfl dX7_costOf_19 rfl ?_
          refine r_getR C 23 dX7_costOf_20 flX7_40 kt_121 rfl rf_121_0 rfl ?_
          refine r_iload_n C 24 3 rfl dX7_costOf_23 rfl ?_
          refine r_cVpI C 27 [.int (x2)] (ok_f_X9_costOf_7 x3 h) dX7_costOf_24 lvX7_125 kt_7 rfl rfl rfl (by decide) (Nat.le_of_ble_eq_true rfl) rfl rfl (Nat.le_of_ble_eq_true rfl) rfl rfl (fun v_5 => ?_)
          refine r_iadd C 28 dX7_costOf_27 rfl ?_
          refine r_istore_n C 29 2 [(2, .int ((x2) + (v_5))), (0, .ref (kad κ 121)), (1, .int (x1)), (3, .int (x3))] dX7_costOf_28 rfl (by decide) rfl rfl ?_
          exact imp_sub [(0, .ref (kad κ 121)), (1, .int (x1)), (2, .int ((x2) + (v_5))), (3, .int (x3))] [1, 2, 0, 3] rfl (hj_3 ((x2) + (v_5)))
        · exact imp_sub [(0, .ref (kad κ 121)), (1, .int (x1)), (2, .int (x2)), (3, .int (x3))] [0, 1, 2, 3] rfl (hj_3 (x2))
    · refine r_iload_n C 36 2 rfl dX7_costOf_35 rfl ?_
      exact r_iret C Rr dX7_costOf_36 (fun _ => rfl) rfl
set_option maxHeartbeats 4000000 in
set_option maxRecDepth 100000 in
theorem imp_f_X7_costOf {κ : Kx Int32} (C : Cx κ cX7_costOf RX7 4 2 (40 * 2) []) (x1 : Int32)  (h : CH) (Rr : Rt κ (some .int) (fun (x : Int32) (_ : Nat → Nat) => some (Value.int x)) (fun (_ : Int32) => h)) : Imp κ 0 [(0, .ref (kad κ 121)), (1, .int (x1))] [] h (f_X7_costOf x1 h) := by
  unfold f_X7_costOf
  refine r_iconst C 1 (nI 0) (by decide) dX7_costOf_0 rfl ?_
  refine r_istore_n C 2 2 [(2, .int ((nI 0))), (0, .ref (kad κ 121)), (1, .int (x1))] dX7_costOf_1 rfl (by decide) rfl rfl ?_
  refine r_iconst C 3 (nI 0) (by decide) dX7_costOf_2 rfl ?_
  refine r_istore_n C 4 3 [(3, .int ((nI 0))), (2, .int ((nI 0))), (0, .ref (kad κ 121)), (1, .int (x1))] dX7_costOf_3 rfl (by decide) rfl rfl ?_
  refine imp_sub [(0, .ref (kad κ 121)), (1, .int (x1)), (2, .int ((nI 0))), (3, .int ((nI 0)))] [2, 3, 1, 0] rfl ?_
  refine imp_f_X7_costOf_L4 C (x1) h Rr FU ((nI 0)) ((nI 0))
set_option maxHeartbeats 4000000 in
theorem ok_f_X7_costOf (x1 : Int32)  (h : CH) : ∀ q, f_X7_costOf x1 h = some q → MG yX7_costOf cX7_costOf 4 (some .int) [] 2 (fun ad => [.ref (ad 121), .int x1]) h ((fun (x : Int32) (_ : Nat → Nat) => some (Value.int x)) q) ((fun (_ : Int32) => h) q) := mg_of RX7 (by decide) rfl (fun _ => Nat.le_of_ble_eq_true rfl) (fun κ C Rr => imp_f_X7_costOf C x1 h Rr)
set_option maxHeartbeats 4000000 in
set_option maxRecDepth 100000 in
theorem imp_f_X7_look_L17 {κ : Kx (Unit × CH)} (C : Cx κ cX7_look RX7 5 6 (40 * 6) []) (x1 : Int32)    (Rr : Rt κ none (fun (_ : Unit × CH) (_ : Nat → Nat) => (none : Option Value)) (fun (q : (Unit × CH)) => q.2)) : ∀ (n : Nat) (x3 : Int32) (h : CH), Imp κ 17 [(0, .ref (kad κ 121)), (1, .int (x1)), (3, .int (x3))] [] h (f_X7_look_L17 x1 n x3 h) := by
  intro n
  induction n with
  | zero => intros; exact imp_none
  | succ n ih =>
    intro x3 h
    rw [f_X7_look_L17]
    refine r_iload_n C 18 2 rfl dX7_look_17 rfl ?_
    refine r_bipush C 20 (nI 16) (by decide) dX7_look_18 rfl ?_
    refine r_icmp_ge C 23 65 dX7_look_20 (by decide) rfl (fun c_4 => ?_) (fun c_4 => ?_)
    · refine r_aload_n C 24 0 rfl dX7_look_23 rfl ?_
      refine r_iload_n C 25 2 rfl dX7_look_24 rfl ?_
      refine r_cVpI C 28 [] (ok_f_X7_showingOf x3 h) dX7_look_25 lvX7_105 kt_121 rfl rfl rfl (by decide) (Nat.le_of_ble_eq_true rfl) rfl rfl (Nat.le_of_ble_eq_true rfl) rfl rfl (fun v_5 => ?_)
      refine r_istore C 30 [(4, .int (v_5)), (0, .ref (kad κ 121)), (1, .int (x1)), (3, .int (x3))] dX7_look_28 (by decide) rfl rfl ?_
      refine r_iload C 32 0 rfl dX7_look_30 rfl ?_
      refine r_aload_n C 33 1 rfl dX7_look_32 rfl ?_
      refine r_getI C 36 dX7_look_33 flX7_37 kt_121 rfl rfl ?_
      refine imp_jn (fun (j_7 : CH → Option (Unit × CH)) => ∀ (h_6 : CH), Imp κ 59 [(0, .ref (kad κ 121)), (1, .int (x1)), (3, .int (x3))] [] h_6 (j_7 h_6)) ?_ ?_
      · intro h_6
        refine r_iinc C 62 2 (nI 1) [(3, .int (x3 + (nI 1))), (0, .ref (kad κ 121)), (1, .int (x1))] dX7_look_59 rfl (by decide) (by decide) rfl rfl ?_
        refine r_goto C 17 dX7_look_62 (by decide) ?_
        exact imp_sub [(0, .ref (kad κ 121)), (1, .int (x1)), (3, .int (x3 + (nI 1)))] [1, 2, 0] rfl (ih (x3 + (nI 1)) h_6)
      · intro j_7 hj_7
        refine r_icmp_le C 39 59 dX7_look_36 (by decide) rfl (fun c_8 => ?_) (fun c_8 => ?_)
        · refine r_aload_n C 40 1 rfl dX7_look_39 rfl ?_
          refine r_iload_n C 41 3 rfl dX7_look_40 rfl ?_
          refine r_cVpI C 44 [] (ok_f_X7_costOf x3 h) dX7_look_41 lvX7_108 kt_121 rfl rfl rfl (by decide) (Nat.le_of_ble_eq_true rfl) rfl rfl (Nat.le_of_ble_eq_true rfl) rfl rfl (fun v_9 => ?_)
          refine r_iload_n C 45 2 rfl dX7_look_44 rfl ?_
          refine r_icmp_gt C 48 59 dX7_look_45 (by decide) rfl (fun c_10 => ?_) (fun c_10 => ?_)
          · exact imp_sub [(0, .ref (kad κ 121)), (1, .int (x1)), (3, .int (x3))] [1, 2, 3] rfl (hj_7 h)
          · refine r_aload_n C 49 1 rfl dX7_look_48 rfl ?_
            refine r_iload_n C 50 3 rfl dX7_look_49 rfl ?_
            refine r_putI C 53 dX7_look_50 flX7_34 kt_121 rfl rfl (fun h_11 => ?_)
            refine r_aload_n C 54 1 rfl dX7_look_53 rfl ?_
            refine r_iload C 56 0 rfl dX7_look_54 rfl ?_
            refine r_putI C 59 dX7_look_56 flX7_37 kt_121 rfl rfl (fun h_12 => ?_)
            exact imp_sub [(0, .ref (kad κ 121)), (1, .int (x1)), (3, .int (x3))] [1, 2, 3] rfl (hj_7 h_12)
        · exact imp_sub [(0, .ref (kad κ 121)), (1, .int (x1)), (3, .int (x3))] [1, 2, 3] rfl (hj_7 h)
    · exact r_vret C Rr dX7_look_65 (fun _ => rfl) rfl
set_option maxHeartbeats 4000000 in
set_option maxRecDepth 100000 in
theorem imp_f_X7_look {κ : Kx (Unit × CH)} (C : Cx κ cX7_look RX7 5 6 (40 * 6) []) (x1 : Int32) (x2 : Int32)  (h : CH) (Rr : Rt κ none (fun (_ : Unit × CH) (_ : Nat → Nat) => (none : Option Value)) (fun (q : (Unit × CH)) => q.2)) : Imp κ 0 [(0, .ref (kad κ 121)), (1, .int (x1)), (2, .int (x2))] [] h (f_X7_look x1 x2 h) := by
  unfold f_X7_look
  refine r_aload_n C 1 0 rfl dX7_look_0 rfl ?_
  refine r_iload_n C 2 2 rfl dX7_look_1 rfl ?_
  refine r_cViV C 5 [] (ok_f_X7_countShowing x2 h) dX7_look_2 lvX7_101 kt_121 rfl rfl rfl (by decide) (Nat.le_of_ble_eq_true rfl) rfl rfl (Nat.le_of_ble_eq_true rfl) rfl rfl (fun _ h_1 => ?_)
  refine r_aload_n C 6 0 rfl dX7_look_5 rfl ?_
  refine r_iconst C 7 (nI 0) (by decide) dX7_look_6 rfl ?_
  refine r_putI C 10 dX7_look_7 flX7_34 kt_121 rfl rfl (fun h_2 => ?_)
  refine r_aload_n C 11 0 rfl dX7_look_10 rfl ?_
  refine r_iconst C 12 (nI 0) (by decide) dX7_look_11 rfl ?_
  refine r_putI C 15 dX7_look_12 flX7_37 kt_121 rfl rfl (fun h_3 => ?_)
  refine r_iconst C 16 (nI 0) (by decide) dX7_look_15 rfl ?_
  refine r_istore_n C 17 3 [(3, .int ((nI 0))), (0, .ref (kad κ 121)), (1, .int (x1)), (2, .int (x2))] dX7_look_16 rfl (by decide) rfl rfl ?_
  refine imp_sub [(0, .ref (kad κ 121)), (1, .int (x1)), (3, .int ((nI 0)))] [1, 2, 0] rfl ?_
  refine imp_f_X7_look_L17 C (x1) Rr FU ((nI 0)) h_3
set_option maxHeartbeats 4000000 in
theorem ok_f_X7_look (x1 : Int32) (x2 : Int32)  (h : CH) : ∀ q, f_X7_look x1 x2 h = some q → MG yX7_look cX7_look 5 none [] 6 (fun ad => [.ref (ad 121), .int x1, .int x2]) h ((fun (_ : Unit × CH) (_ : Nat → Nat) => (none : Option Value)) q) ((fun (q : (Unit × CH)) => q.2) q) := mg_of RX7 (by decide) rfl (fun _ => Nat.le_of_ble_eq_true rfl) (fun κ C Rr => imp_f_X7_look C x1 x2 h Rr)
set_option maxHeartbeats 4000000 in
set_option maxRecDepth 100000 in
theorem imp_f_X11_looks {κ : Kx (Int32 × CH)} (C : Cx κ cX11_looks RX11 4 7 (40 * 7) []) (x1 : Int32) (x2 : Int32) (x3 : Int32)  (h : CH) (Rr : Rt κ (some .int) (fun (q : Int32 × CH) (_ : Nat → Nat) => some (Value.int q.1)) (fun (q : (Int32 × CH)) => q.2)) : Imp κ 0 [(0, .ref (kad κ 0)), (1, .int (x1)), (2, .int (x2)), (3, .int (x3))] [] h (f_X11_looks x1 x2 x3 h) := by
  unfold f_X11_looks
  refine r_iload_n C 1 1 rfl dX11_looks_0 rfl ?_
  refine r_if_lt C 4 20 dX11_looks_1 (by decide) rfl (fun c_1 => ?_) (fun c_1 => ?_)
  · refine r_iconst C 21 (-1) (by decide) dX11_looks_20 rfl ?_
    exact r_iret C Rr dX11_looks_21 (fun _ => rfl) rfl
  · refine r_iload_n C 5 1 rfl dX11_looks_4 rfl ?_
    refine r_sipush C 8 (nI 999) (by decide) dX11_looks_5 rfl ?_
    refine r_icmp_gt C 11 20 dX11_looks_8 (by decide) rfl (fun c_2 => ?_) (fun c_2 => ?_)
    · refine r_iconst C 21 (-1) (by decide) dX11_looks_20 rfl ?_
      exact r_iret C Rr dX11_looks_21 (fun _ => rfl) rfl
    · refine r_iload_n C 12 2 rfl dX11_looks_11 rfl ?_
      refine r_if_lt C 15 20 dX11_looks_12 (by decide) rfl (fun c_3 => ?_) (fun c_3 => ?_)
      · refine r_iconst C 21 (-1) (by decide) dX11_looks_20 rfl ?_
        exact r_iret C Rr dX11_looks_21 (fun _ => rfl) rfl
      · refine r_iload_n C 16 2 rfl dX11_looks_15 rfl ?_
        refine r_iconst C 17 (nI 1) (by decide) dX11_looks_16 rfl ?_
        refine r_icmp_le C 20 22 dX11_looks_17 (by decide) rfl (fun c_4 => ?_) (fun c_4 => ?_)
        · refine r_iconst C 21 (-1) (by decide) dX11_looks_20 rfl ?_
          exact r_iret C Rr dX11_looks_21 (fun _ => rfl) rfl
        · refine r_aload_n C 23 0 rfl dX11_looks_22 rfl ?_
          refine r_getR C 26 dX11_looks_23 flX11_93 kt_0 rfl rf_0_14 rfl ?_
          refine r_iload_n C 27 1 rfl dX11_looks_26 rfl ?_
          refine r_iload_n C 28 3 rfl dX11_looks_27 rfl ?_
          refine r_cViV C 31 [] (ok_f_X7_look x1 x3 h) dX11_looks_28 lvX11_282 kt_121 rfl rfl rfl (by decide) (Nat.le_of_ble_eq_true rfl) rfl rfl (Nat.le_of_ble_eq_true rfl) rfl rfl (fun _ h_5 => ?_)
          refine r_iload_n C 32 2 rfl dX11_looks_31 rfl ?_
          refine r_if_ne C 35 45 dX11_looks_32 (by decide) rfl (fun c_6 => ?_) (fun c_6 => ?_)
          · refine r_aload_n C 36 0 rfl dX11_looks_35 rfl ?_
            refine r_getR C 39 dX11_looks_36 flX11_93 kt_0 rfl rf_0_14 rfl ?_
            refine r_getI C 42 dX11_looks_39 flX11_285 kt_121 rfl rfl ?_
            refine r_goto C 52 dX11_looks_42 (by decide) ?_
            exact r_iret C Rr dX11_looks_52 (fun _ => rfl) rfl
          · refine r_aload_n C 46 0 rfl dX11_looks_45 rfl ?_
            refine r_getR C 49 dX11_looks_46 flX11_93 kt_0 rfl rf_0_14 rfl ?_
            refine r_getI C 52 dX11_looks_49 flX11_288 kt_121 rfl rfl ?_
            exact r_iret C Rr dX11_looks_52 (fun _ => rfl) rfl
set_option maxHeartbeats 4000000 in
theorem ok_f_X11_looks (x1 : Int32) (x2 : Int32) (x3 : Int32)  (h : CH) : ∀ q, f_X11_looks x1 x2 x3 h = some q → MG yX11_looks cX11_looks 4 (some .int) [] 7 (fun ad => [.ref (ad 0), .int x1, .int x2, .int x3]) h ((fun (q : Int32 × CH) (_ : Nat → Nat) => some (Value.int q.1)) q) ((fun (q : (Int32 × CH)) => q.2) q) := mg_of RX11 (by decide) rfl (fun _ => Nat.le_of_ble_eq_true rfl) (fun κ C Rr => imp_f_X11_looks C x1 x2 x3 h Rr)
set_option maxHeartbeats 4000000 in
set_option maxRecDepth 100000 in
theorem imp_f_X11_isPrice {κ : Kx Int32} (C : Cx κ cX11_isPrice RX11 1 1 (40 * 1) []) (x0 : Int32)  (h : CH) (Rr : Rt κ (some .boolean) (fun (x : Int32) (_ : Nat → Nat) => some (Value.int x)) (fun (_ : Int32) => h)) : Imp κ 0 [(0, .int (x0))] [] h (f_X11_isPrice x0 h) := by
  unfold f_X11_isPrice
  refine r_iload_n C 1 0 rfl dX11_isPrice_0 rfl ?_
  refine r_if_lt C 4 14 dX11_isPrice_1 (by decide) rfl (fun c_1 => ?_) (fun c_1 => ?_)
  · refine r_iconst C 15 (nI 0) (by decide) dX11_isPrice_14 rfl ?_
    exact r_zret C Rr (by decide) dX11_isPrice_15 (fun _ => rfl) rfl
  · refine r_iload_n C 5 0 rfl dX11_isPrice_4 rfl ?_
    refine r_bipush C 7 (nI 99) (by decide) dX11_isPrice_5 rfl ?_
    refine r_icmp_gt C 10 14 dX11_isPrice_7 (by decide) rfl (fun c_2 => ?_) (fun c_2 => ?_)
    · refine r_iconst C 15 (nI 0) (by decide) dX11_isPrice_14 rfl ?_
      exact r_zret C Rr (by decide) dX11_isPrice_15 (fun _ => rfl) rfl
    · refine r_iconst C 11 (nI 1) (by decide) dX11_isPrice_10 rfl ?_
      refine r_goto C 15 dX11_isPrice_11 (by decide) ?_
      exact r_zret C Rr (by decide) dX11_isPrice_15 (fun _ => rfl) rfl
set_option maxHeartbeats 4000000 in
theorem ok_f_X11_isPrice (x0 : Int32)  (h : CH) : ∀ q, f_X11_isPrice x0 h = some q → MG yX11_isPrice cX11_isPrice 1 (some .boolean) [] 1 (fun ad => [.int x0]) h ((fun (x : Int32) (_ : Nat → Nat) => some (Value.int x)) q) ((fun (_ : Int32) => h) q) := mg_of RX11 (by decide) rfl (fun _ => Nat.le_of_ble_eq_true rfl) (fun κ C Rr => imp_f_X11_isPrice C x0 h Rr)
set_option maxHeartbeats 4000000 in
set_option maxRecDepth 100000 in
theorem imp_f_X3_falseOf_L5 {κ : Kx Int32} (C : Cx κ cX3_falseOf RX3 5 4 (40 * 4) []) (x1 : Int32) (x2 : Int32) (h : CH)    (Rr : Rt κ (some .int) (fun (x : Int32) (_ : Nat → Nat) => some (Value.int x)) (fun (_ : Int32) => h)) : ∀ (n : Nat) (x3 : Int32) (x4 : Int32), Imp κ 5 [(0, .ref (kad κ 117)), (1, .int (x1)), (2, .int (x2)), (3, .int (x3)), (4, .int (x4))] [] h (f_X3_falseOf_L5 x1 x2 h n x3 x4) := by
  intro n
  induction n with
  | zero => intros; exact imp_none
  | succ n ih =>
    intro x3 x4
    rw [f_X3_falseOf_L5]
    refine r_iload C 7 4 rfl dX3_falseOf_5 rfl ?_
    refine r_aload_n C 8 0 rfl dX3_falseOf_7 rfl ?_
    refine r_getR C 11 dX3_falseOf_8 flX3_21 kt_117 rfl rf_117_0 rfl ?_
    refine r_getI C 14 dX3_falseOf_11 flX3_40 kt_7 rfl rfl ?_
    refine r_icmp_ge C 17 46 dX3_falseOf_14 (by decide) rfl (fun c_1 => ?_) (fun c_1 => ?_)
    · refine r_iload C 19 4 rfl dX3_falseOf_17 rfl ?_
      refine r_iload_n C 20 1 rfl dX3_falseOf_19 rfl ?_
      refine imp_jn (fun (j_3 : Int32 → Option Int32) => ∀ (x3_2 : Int32), Imp κ 40 [(0, .ref (kad κ 117)), (1, .int (x1)), (2, .int (x2)), (3, .int (x3_2)), (4, .int (x4))] [] h (j_3 x3_2)) ?_ ?_
      · intro x3_2
        refine r_iinc C 43 4 (nI 1) [(4, .int (x4 + (nI 1))), (0, .ref (kad κ 117)), (1, .int (x1)), (2, .int (x2)), (3, .int (x3_2))] dX3_falseOf_40 rfl (by decide) (by decide) rfl rfl ?_
        refine r_goto C 5 dX3_falseOf_43 (by decide) ?_
        exact imp_sub [(0, .ref (kad κ 117)), (1, .int (x1)), (2, .int (x2)), (3, .int (x3_2)), (4, .int (x4 + (nI 1)))] [1, 2, 3, 4, 0] rfl (ih (x3_2) (x4 + (nI 1)))
      · intro j_3 hj_3
        refine r_icmp_eq C 23 40 dX3_falseOf_20 (by decide) rfl (fun c_4 => ?_) (fun c_4 => ?_)
        · exact imp_sub [(0, .ref (kad κ 117)), (1, .int (x1)), (2, .int (x2)), (3, .int (x3)), (4, .int (x4))] [0, 1, 2, 3, 4] rfl (hj_3 (x3))
        · refine r_aload_n C 24 0 rfl dX3_falseOf_23 rfl ?_
          refine r_getR C 27 dX3_falseOf_24 flX3_25 kt_117 rfl rf_117_1 rfl ?_
          refine r_iload_n C 28 1 rfl dX3_falseOf_27 rfl ?_
          refine r_iload C 30 4 rfl dX3_falseOf_28 rfl ?_
          refine r_cVpI C 33 [] (ok_f_X1_apartFromPicture x1 x4 h) dX3_falseOf_30 lvX3_46 kt_81 rfl rfl rfl (by decide) (Nat.le_of_ble_eq_true rfl) rfl rfl (Nat.le_of_ble_eq_true rfl) rfl rfl (fun v_5 => ?_)
          refine r_iload_n C 34 2 rfl dX3_falseOf_33 rfl ?_
          refine r_icmp_gt C 37 40 dX3_falseOf_34 (by decide) rfl (fun c_6 => ?_) (fun c_6 => ?_)
          · exact imp_sub [(0, .ref (kad κ 117)), (1, .int (x1)), (2, .int (x2)), (3, .int (x3)), (4, .int (x4))] [0, 1, 2, 3, 4] rfl (hj_3 (x3))
          · refine r_iinc C 40 3 (nI 1) [(3, .int (x3 + (nI 1))), (0, .ref (kad κ 117)), (1, .int (x1)), (2, .int (x2)), (4, .int (x4))] dX3_falseOf_37 rfl (by decide) (by decide) rfl rfl ?_
            exact imp_sub [(0, .ref (kad κ 117)), (1, .int (x1)), (2, .int (x2)), (3, .int (x3 + (nI 1))), (4, .int (x4))] [1, 2, 3, 0, 4] rfl (hj_3 (x3 + (nI 1)))
    · refine r_iload_n C 47 3 rfl dX3_falseOf_46 rfl ?_
      exact r_iret C Rr dX3_falseOf_47 (fun _ => rfl) rfl
set_option maxHeartbeats 4000000 in
set_option maxRecDepth 100000 in
theorem imp_f_X3_falseOf {κ : Kx Int32} (C : Cx κ cX3_falseOf RX3 5 4 (40 * 4) []) (x1 : Int32) (x2 : Int32)  (h : CH) (Rr : Rt κ (some .int) (fun (x : Int32) (_ : Nat → Nat) => some (Value.int x)) (fun (_ : Int32) => h)) : Imp κ 0 [(0, .ref (kad κ 117)), (1, .int (x1)), (2, .int (x2))] [] h (f_X3_falseOf x1 x2 h) := by
  unfold f_X3_falseOf
  refine r_iconst C 1 (nI 0) (by decide) dX3_falseOf_0 rfl ?_
  refine r_istore_n C 2 3 [(3, .int ((nI 0))), (0, .ref (kad κ 117)), (1, .int (x1)), (2, .int (x2))] dX3_falseOf_1 rfl (by decide) rfl rfl ?_
  refine r_iconst C 3 (nI 0) (by decide) dX3_falseOf_2 rfl ?_
  refine r_istore C 5 [(4, .int ((nI 0))), (3, .int ((nI 0))), (0, .ref (kad κ 117)), (1, .int (x1)), (2, .int (x2))] dX3_falseOf_3 (by decide) rfl rfl ?_
  refine imp_sub [(0, .ref (kad κ 117)), (1, .int (x1)), (2, .int (x2)), (3, .int ((nI 0))), (4, .int ((nI 0)))] [2, 3, 4, 1, 0] rfl ?_
  refine imp_f_X3_falseOf_L5 C (x1) (x2) h Rr FU ((nI 0)) ((nI 0))
set_option maxHeartbeats 4000000 in
theorem ok_f_X3_falseOf (x1 : Int32) (x2 : Int32)  (h : CH) : ∀ q, f_X3_falseOf x1 x2 h = some q → MG yX3_falseOf cX3_falseOf 5 (some .int) [] 4 (fun ad => [.ref (ad 117), .int x1, .int x2]) h ((fun (x : Int32) (_ : Nat → Nat) => some (Value.int x)) q) ((fun (_ : Int32) => h) q) := mg_of RX3 (by decide) rfl (fun _ => Nat.le_of_ble_eq_true rfl) (fun κ C Rr => imp_f_X3_falseOf C x1 x2 h Rr)
set_option maxHeartbeats 4000000 in
set_option maxRecDepth 100000 in
theorem imp_f_X3_falseByBars_L4 {κ : Kx Int32} (C : Cx κ cX3_falseByBars RX3 4 5 (40 * 5) []) (h : CH)    (Rr : Rt κ (some .int) (fun (x : Int32) (_ : Nat → Nat) => some (Value.int x)) (fun (_ : Int32) => h)) : ∀ (n : Nat) (x1 : Int32) (x2 : Int32), Imp κ 4 [(0, .ref (kad κ 117)), (1, .int (x1)), (2, .int (x2))] [] h (f_X3_falseByBars_L4 h n x1 x2) := by
  intro n
  induction n with
  | zero => intros; exact imp_none
  | succ n ih =>
    intro x1 x2
    rw [f_X3_falseByBars_L4]
    refine r_iload_n C 5 2 rfl dX3_falseByBars_4 rfl ?_
    refine r_aload_n C 6 0 rfl dX3_falseByBars_5 rfl ?_
    refine r_getR C 9 dX3_falseByBars_6 flX3_21 kt_117 rfl rf_117_0 rfl ?_
    refine r_getI C 12 dX3_falseByBars_9 flX3_40 kt_7 rfl rfl ?_
    refine r_icmp_ge C 15 53 dX3_falseByBars_12 (by decide) rfl (fun c_1 => ?_) (fun c_1 => ?_)
    · refine r_aload_n C 16 0 rfl dX3_falseByBars_15 rfl ?_
      refine r_getR C 19 dX3_falseByBars_16 flX3_21 kt_117 rfl rf_117_0 rfl ?_
      refine r_iload_n C 20 2 rfl dX3_falseByBars_19 rfl ?_
      refine r_cVpI C 23 [] (ok_f_X9_kindOf_7 x2 h) dX3_falseByBars_20 lvX3_51 kt_7 rfl rfl rfl (by decide) (Nat.le_of_ble_eq_true rfl) rfl rfl (Nat.le_of_ble_eq_true rfl) rfl rfl (fun v_2 => ?_)
      refine r_istore_n C 24 3 [(3, .int (v_2)), (0, .ref (kad κ 117)), (1, .int (x1)), (2, .int (x2))] dX3_falseByBars_23 rfl (by decide) rfl rfl ?_
      refine r_iload_n C 25 0 rfl dX3_falseByBars_24 rfl ?_
      refine imp_jn (fun (j_4 : Int32 → Option Int32) => ∀ (x1_3 : Int32), Imp κ 47 [(0, .ref (kad κ 117)), (1, .int (x1_3)), (2, .int (x2))] [] h (j_4 x1_3)) ?_ ?_
      · intro x1_3
        refine r_iinc C 50 2 (nI 1) [(2, .int (x2 + (nI 1))), (0, .ref (kad κ 117)), (1, .int (x1_3))] dX3_falseByBars_47 rfl (by decide) (by decide) rfl rfl ?_
        refine r_goto C 4 dX3_falseByBars_50 (by decide) ?_
        exact imp_sub [(0, .ref (kad κ 117)), (1, .int (x1_3)), (2, .int (x2 + (nI 1)))] [1, 2, 0] rfl (ih (x1_3) (x2 + (nI 1)))
      · intro j_4 hj_4
        refine r_if_lt C 28 47 dX3_falseByBars_25 (by decide) rfl (fun c_5 => ?_) (fun c_5 => ?_)
        · exact imp_sub [(0, .ref (kad κ 117)), (1, .int (x1)), (2, .int (x2))] [1, 2, 3] rfl (hj_4 (x1))
        · refine r_iload_n C 29 0 rfl dX3_falseByBars_28 rfl ?_
          refine r_iconst C 30 (nI 4) (by decide) dX3_falseByBars_29 rfl ?_
          refine r_icmp_ge C 33 47 dX3_falseByBars_30 (by decide) rfl (fun c_6 => ?_) (fun c_6 => ?_)
          · refine r_iload_n C 34 2 rfl dX3_falseByBars_33 rfl ?_
            refine r_aload_n C 35 1 rfl dX3_falseByBars_34 rfl ?_
            refine r_iload_n C 36 3 rfl dX3_falseByBars_35 rfl ?_
            refine r_aload_n C 37 1 rfl dX3_falseByBars_36 rfl ?_
            refine r_getR C 40 dX3_falseByBars_37 flX3_9 kt_117 rfl rf_117_2 rfl ?_
            refine r_iload_n C 41 0 rfl dX3_falseByBars_40 rfl ?_
            refine r_iald C 42 dX3_falseByBars_41 kt_118 rfl rfl (fun v_7 => ?_)
            refine r_cVpI C 45 [.int (x1)] (ok_f_X3_falseOf x2 v_7 h) dX3_falseByBars_42 lvX3_55 kt_117 rfl rfl rfl (by decide) (Nat.le_of_ble_eq_true rfl) rfl rfl (Nat.le_of_ble_eq_true rfl) rfl rfl (fun v_8 => ?_)
            refine r_iadd C 46 dX3_falseByBars_45 rfl ?_
            refine r_istore_n C 47 1 [(1, .int ((x1) + (v_8))), (3, .int (v_2)), (0, .ref (kad κ 117)), (2, .int (x2))] dX3_falseByBars_46 rfl (by decide) rfl rfl ?_
            exact imp_sub [(0, .ref (kad κ 117)), (1, .int ((x1) + (v_8))), (2, .int (x2))] [2, 0, 3] rfl (hj_4 ((x1) + (v_8)))
          · exact imp_sub [(0, .ref (kad κ 117)), (1, .int (x1)), (2, .int (x2))] [1, 2, 3] rfl (hj_4 (x1))
    · refine r_iload_n C 54 1 rfl dX3_falseByBars_53 rfl ?_
      exact r_iret C Rr dX3_falseByBars_54 (fun _ => rfl) rfl
set_option maxHeartbeats 4000000 in
set_option maxRecDepth 100000 in
theorem imp_f_X3_falseByBars {κ : Kx Int32} (C : Cx κ cX3_falseByBars RX3 4 5 (40 * 5) [])   (h : CH) (Rr : Rt κ (some .int) (fun (x : Int32) (_ : Nat → Nat) => some (Value.int x)) (fun (_ : Int32) => h)) : Imp κ 0 [(0, .ref (kad κ 117))] [] h (f_X3_falseByBars h) := by
  unfold f_X3_falseByBars
  refine r_iconst C 1 (nI 0) (by decide) dX3_falseByBars_0 rfl ?_
  refine r_istore_n C 2 1 [(1, .int ((nI 0))), (0, .ref (kad κ 117))] dX3_falseByBars_1 rfl (by decide) rfl rfl ?_
  refine r_iconst C 3 (nI 0) (by decide) dX3_falseByBars_2 rfl ?_
  refine r_istore_n C 4 2 [(2, .int ((nI 0))), (1, .int ((nI 0))), (0, .ref (kad κ 117))] dX3_falseByBars_3 rfl (by decide) rfl rfl ?_
  refine imp_sub [(0, .ref (kad κ 117)), (1, .int ((nI 0))), (2, .int ((nI 0)))] [2, 1, 0] rfl ?_
  refine imp_f_X3_falseByBars_L4 C h Rr FU ((nI 0)) ((nI 0))
set_option maxHeartbeats 4000000 in
theorem ok_f_X3_falseByBars   (h : CH) : ∀ q, f_X3_falseByBars h = some q → MG yX3_falseByBars cX3_falseByBars 4 (some .int) [] 5 (fun ad => [.ref (ad 117)]) h ((fun (x : Int32) (_ : Nat → Nat) => some (Value.int x)) q) ((fun (_ : Int32) => h) q) := mg_of RX3 (by decide) rfl (fun _ => Nat.le_of_ble_eq_true rfl) (fun κ C Rr => imp_f_X3_falseByBars C  h Rr)
