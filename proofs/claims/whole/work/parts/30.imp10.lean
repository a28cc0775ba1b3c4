/-! the methods do what the functions say, by program -/
set_option maxHeartbeats 4000000 in
set_option maxRecDepth 100000 in
theorem imp_f_X12_printerOf {κ : Kx Int32} (C : Cx κ cX12_printerOf RX12 2 1 (40 * 1) []) (x1 : Int32)  (h : CH) (Rr : Rt κ (some .int) (fun (x : Int32) (_ : Nat → Nat) => some (Value.int x)) (fun (_ : Int32) => h)) : Imp κ 0 [(0, .ref (kad κ 151)), (1, .int (x1))] [] h (f_X12_printerOf x1 h) := by
  unfold f_X12_printerOf
  refine r_aload_n C 1 0 rfl dX12_printerOf_0 rfl ?_
  refine r_getR C 4 dX12_printerOf_1 flX12_104 kt_151 rfl rf_151_57 rfl ?_
  refine r_iload_n C 5 1 rfl dX12_printerOf_4 rfl ?_
  refine r_iald C 6 dX12_printerOf_5 kt_181 rfl rfl (fun v_1 => ?_)
  refine r_bipush C 8 (nI 10) (by decide) dX12_printerOf_6 rfl ?_
  refine r_idivk C 9 (by decide) dX12_printerOf_8 rfl ?_
  refine r_bipush C 11 (nI 10) (by decide) dX12_printerOf_9 rfl ?_
  refine r_iremk C 12 (by decide) dX12_printerOf_11 rfl ?_
  exact r_iret C Rr dX12_printerOf_12 (fun _ => rfl) rfl
set_option maxHeartbeats 4000000 in
theorem ok_f_X12_printerOf (x1 : Int32)  (h : CH) : ∀ q, f_X12_printerOf x1 h = some q → MG yX12_printerOf cX12_printerOf 2 (some .int) [] 1 (fun ad => [.ref (ad 151), .int x1]) h ((fun (x : Int32) (_ : Nat → Nat) => some (Value.int x)) q) ((fun (_ : Int32) => h) q) := mg_of RX12 (by decide) rfl (fun _ => Nat.le_of_ble_eq_true rfl) (fun κ C Rr => imp_f_X12_printerOf C x1 h Rr)
set_option maxHeartbeats 4000000 in
set_option maxRecDepth 100000 in
theorem imp_f_X12_layPaper {κ : Kx (Unit × CH)} (C : Cx κ cX12_layPaper RX12 2 3 (40 * 3) []) (x1 : Int32)  (h : CH) (Rr : Rt κ none (fun (_ : Unit × CH) (_ : Nat → Nat) => (none : Option Value)) (fun (q : (Unit × CH)) => q.2)) : Imp κ 0 [(0, .ref (kad κ 151)), (1, .int (x1))] [] h (f_X12_layPaper x1 h) := by
  unfold f_X12_layPaper
  refine r_aload_n C 1 0 rfl dX12_layPaper_0 rfl ?_
  refine r_aload_n C 2 0 rfl dX12_layPaper_1 rfl ?_
  refine r_getR C 5 dX12_layPaper_2 flX12_95 kt_151 rfl rf_151_54 rfl ?_
  refine r_iload_n C 6 1 rfl dX12_layPaper_5 rfl ?_
  refine r_iald C 7 dX12_layPaper_6 kt_178 rfl rfl (fun v_1 => ?_)
  refine r_aload_n C 8 0 rfl dX12_layPaper_7 rfl ?_
  refine r_getR C 11 dX12_layPaper_8 flX12_98 kt_151 rfl rf_151_55 rfl ?_
  refine r_iload_n C 12 1 rfl dX12_layPaper_11 rfl ?_
  refine r_iald C 13 dX12_layPaper_12 kt_179 rfl rfl (fun v_2 => ?_)
  refine r_aload_n C 14 0 rfl dX12_layPaper_13 rfl ?_
  refine r_getR C 17 dX12_layPaper_14 flX12_101 kt_151 rfl rf_151_56 rfl ?_
  refine r_iload_n C 18 1 rfl dX12_layPaper_17 rfl ?_
  refine r_iald C 19 dX12_layPaper_18 kt_180 rfl rfl (fun v_3 => ?_)
  refine r_aload_n C 20 0 rfl dX12_layPaper_19 rfl ?_
  refine r_iload_n C 21 1 rfl dX12_layPaper_20 rfl ?_
  refine r_cVpI C 24 [.int (v_3), .int (v_2), .int (v_1), .ref (kad κ 151)] (ok_f_X12_printerOf x1 h) dX12_layPaper_21 lvX12_462 kt_151 rfl rfl rfl (by decide) (Nat.le_of_ble_eq_true rfl) rfl rfl (Nat.le_of_ble_eq_true rfl) rfl rfl (fun v_4 => ?_)
  refine r_cViV C 27 [] (ok_f_X12_layMix v_1 v_2 v_3 v_4 h) dX12_layPaper_24 lvX12_427 kt_151 rfl rfl rfl (by decide) (Nat.le_of_ble_eq_true rfl) rfl rfl (Nat.le_of_ble_eq_true rfl) rfl rfl (fun _ h_5 => ?_)
  exact r_vret C Rr dX12_layPaper_27 (fun _ => rfl) rfl
set_option maxHeartbeats 4000000 in
theorem ok_f_X12_layPaper (x1 : Int32)  (h : CH) : ∀ q, f_X12_layPaper x1 h = some q → MG yX12_layPaper cX12_layPaper 2 none [] 3 (fun ad => [.ref (ad 151), .int x1]) h ((fun (_ : Unit × CH) (_ : Nat → Nat) => (none : Option Value)) q) ((fun (q : (Unit × CH)) => q.2) q) := mg_of RX12 (by decide) rfl (fun _ => Nat.le_of_ble_eq_true rfl) (fun κ C Rr => imp_f_X12_layPaper C x1 h Rr)
set_option maxHeartbeats 4000000 in
set_option maxRecDepth 100000 in
theorem imp_f_X12_putBeside_L2 {κ : Kx (Unit × CH)} (C : Cx κ cX12_putBeside RX12 2 2 (40 * 2) [])     (Rr : Rt κ none (fun (_ : Unit × CH) (_ : Nat → Nat) => (none : Option Value)) (fun (q : (Unit × CH)) => q.2)) : ∀ (n : Nat) (x1 : Int32) (h : CH), Imp κ 2 [(0, .ref (kad κ 151)), (1, .int (x1))] [] h (f_X12_putBeside_L2 n x1 h) := by
  intro n
  induction n with
  | zero => intros; exact imp_none
  | succ n ih =>
    intro x1 h
    rw [f_X12_putBeside_L2]
    refine r_iload_n C 3 1 rfl dX12_putBeside_2 rfl ?_
    refine r_aload_n C 4 0 rfl dX12_putBeside_3 rfl ?_
    refine r_cVpI C 7 [.int (x1)] (ok_f_X12_pointMany h) dX12_putBeside_4 lvX12_406 kt_151 rfl rfl rfl (by decide) (Nat.le_of_ble_eq_true rfl) rfl rfl (Nat.le_of_ble_eq_true rfl) rfl rfl (fun v_1 => ?_)
    refine r_icmp_ge C 10 28 dX12_putBeside_7 (by decide) rfl (fun c_2 => ?_) (fun c_2 => ?_)
    · refine r_aload_n C 11 0 rfl dX12_putBeside_10 rfl ?_
      refine r_getR C 14 dX12_putBeside_11 flX12_92 kt_151 rfl rf_151_53 rfl ?_
      refine r_iload_n C 15 1 rfl dX12_putBeside_14 rfl ?_
      refine r_aload_n C 16 0 rfl dX12_putBeside_15 rfl ?_
      refine r_getR C 19 dX12_putBeside_16 flX12_89 kt_151 rfl rf_151_52 rfl ?_
      refine r_iload_n C 20 1 rfl dX12_putBeside_19 rfl ?_
      refine r_iald C 21 dX12_putBeside_20 kt_176 rfl rfl (fun v_3 => ?_)
      refine r_iast C 22 dX12_putBeside_21 kt_177 rfl rfl (fun h_4 => ?_)
      refine r_iinc C 25 1 (nI 1) [(1, .int (x1 + (nI 1))), (0, .ref (kad κ 151))] dX12_putBeside_22 rfl (by decide) (by decide) rfl rfl ?_
      refine r_goto C 2 dX12_putBeside_25 (by decide) ?_
      exact imp_sub [(0, .ref (kad κ 151)), (1, .int (x1 + (nI 1)))] [1, 0] rfl (ih (x1 + (nI 1)) h_4)
    · exact r_vret C Rr dX12_putBeside_28 (fun _ => rfl) rfl
set_option maxHeartbeats 4000000 in
set_option maxRecDepth 100000 in
theorem imp_f_X12_putBeside {κ : Kx (Unit × CH)} (C : Cx κ cX12_putBeside RX12 2 2 (40 * 2) [])   (h : CH) (Rr : Rt κ none (fun (_ : Unit × CH) (_ : Nat → Nat) => (none : Option Value)) (fun (q : (Unit × CH)) => q.2)) : Imp κ 0 [(0, .ref (kad κ 151))] [] h (f_X12_putBeside h) := by
  unfold f_X12_putBeside
  refine r_iconst C 1 (nI 0) (by decide) dX12_putBeside_0 rfl ?_
  refine r_istore_n C 2 1 [(1, .int ((nI 0))), (0, .ref (kad κ 151))] dX12_putBeside_1 rfl (by decide) rfl rfl ?_
  refine imp_sub [(0, .ref (kad κ 151)), (1, .int ((nI 0)))] [1, 0] rfl ?_
  refine imp_f_X12_putBeside_L2 C Rr FU ((nI 0)) h
set_option maxHeartbeats 4000000 in
theorem ok_f_X12_putBeside   (h : CH) : ∀ q, f_X12_putBeside h = some q → MG yX12_putBeside cX12_putBeside 2 none [] 2 (fun ad => [.ref (ad 151)]) h ((fun (_ : Unit × CH) (_ : Nat → Nat) => (none : Option Value)) q) ((fun (q : (Unit × CH)) => q.2) q) := mg_of RX12 (by decide) rfl (fun _ => Nat.le_of_ble_eq_true rfl) (fun κ C Rr => imp_f_X12_putBeside C  h Rr)
set_option maxHeartbeats 4000000 in
set_option maxRecDepth 100000 in
theorem imp_f_X12_farBeside_L4 {κ : Kx Int32} (C : Cx κ cX12_farBeside RX12 3 2 (40 * 2) []) (h : CH)    (Rr : Rt κ (some .int) (fun (x : Int32) (_ : Nat → Nat) => some (Value.int x)) (fun (_ : Int32) => h)) : ∀ (n : Nat) (x1 : Int32) (x2 : Int32), Imp κ 4 [(0, .ref (kad κ 151)), (1, .int (x1)), (2, .int (x2))] [] h (f_X12_farBeside_L4 h n x1 x2) := by
  intro n
  induction n with
  | zero => intros; exact imp_none
  | succ n ih =>
    intro x1 x2
    rw [f_X12_farBeside_L4]
    refine r_iload_n C 5 2 rfl dX12_farBeside_4 rfl ?_
    refine r_aload_n C 6 0 rfl dX12_farBeside_5 rfl ?_
    refine r_cVpI C 9 [.int (x2)] (ok_f_X12_pointMany h) dX12_farBeside_6 lvX12_406 kt_151 rfl rfl rfl (by decide) (Nat.le_of_ble_eq_true rfl) rfl rfl (Nat.le_of_ble_eq_true rfl) rfl rfl (fun v_1 => ?_)
    refine r_icmp_ge C 12 37 dX12_farBeside_9 (by decide) rfl (fun c_2 => ?_) (fun c_2 => ?_)
    · refine r_iload_n C 13 1 rfl dX12_farBeside_12 rfl ?_
      refine r_aload_n C 14 0 rfl dX12_farBeside_13 rfl ?_
      refine r_getR C 17 dX12_farBeside_14 flX12_89 kt_151 rfl rf_151_52 rfl ?_
      refine r_iload_n C 18 2 rfl dX12_farBeside_17 rfl ?_
      refine r_iald C 19 dX12_farBeside_18 kt_176 rfl rfl (fun v_3 => ?_)
      refine r_aload_n C 20 0 rfl dX12_farBeside_19 rfl ?_
      refine r_getR C 23 dX12_farBeside_20 flX12_92 kt_151 rfl rf_151_53 rfl ?_
      refine r_iload_n C 24 2 rfl dX12_farBeside_23 rfl ?_
      refine r_iald C 25 dX12_farBeside_24 kt_177 rfl rfl (fun v_4 => ?_)
      refine r_isub C 26 dX12_farBeside_25 rfl ?_
      refine r_cSpI C 29 [.int (x1)] (ok_f_X12_sizeOf ((v_3) - (v_4)) h) dX12_farBeside_26 lsX12_412 rfl (by decide) (Nat.le_of_ble_eq_true rfl) rfl rfl (Nat.le_of_ble_eq_true rfl) rfl rfl (fun v_5 => ?_)
      refine r_iadd C 30 dX12_farBeside_29 rfl ?_
      refine r_istore_n C 31 1 [(1, .int ((x1) + (v_5))), (0, .ref (kad κ 151)), (2, .int (x2))] dX12_farBeside_30 rfl (by decide) rfl rfl ?_
      refine r_iinc C 34 2 (nI 1) [(2, .int (x2 + (nI 1))), (1, .int ((x1) + (v_5))), (0, .ref (kad κ 151))] dX12_farBeside_31 rfl (by decide) (by decide) rfl rfl ?_
      refine r_goto C 4 dX12_farBeside_34 (by decide) ?_
      exact imp_sub [(0, .ref (kad κ 151)), (1, .int ((x1) + (v_5))), (2, .int (x2 + (nI 1)))] [2, 1, 0] rfl (ih ((x1) + (v_5)) (x2 + (nI 1)))
    · refine r_iload_n C 38 1 rfl dX12_farBeside_37 rfl ?_
      exact r_iret C Rr dX12_farBeside_38 (fun _ => rfl) rfl
set_option maxHeartbeats 4000000 in
set_option maxRecDepth 100000 in
theorem imp_f_X12_farBeside {κ : Kx Int32} (C : Cx κ cX12_farBeside RX12 3 2 (40 * 2) [])   (h : CH) (Rr : Rt κ (some .int) (fun (x : Int32) (_ : Nat → Nat) => some (Value.int x)) (fun (_ : Int32) => h)) : Imp κ 0 [(0, .ref (kad κ 151))] [] h (f_X12_farBeside h) := by
  unfold f_X12_farBeside
  refine r_iconst C 1 (nI 0) (by decide) dX12_farBeside_0 rfl ?_
  refine r_istore_n C 2 1 [(1, .int ((nI 0))), (0, .ref (kad κ 151))] dX12_farBeside_1 rfl (by decide) rfl rfl ?_
  refine r_iconst C 3 (nI 0) (by decide) dX12_farBeside_2 rfl ?_
  refine r_istore_n C 4 2 [(2, .int ((nI 0))), (1, .int ((nI 0))), (0, .ref (kad κ 151))] dX12_farBeside_3 rfl (by decide) rfl rfl ?_
  refine imp_sub [(0, .ref (kad κ 151)), (1, .int ((nI 0))), (2, .int ((nI 0)))] [2, 1, 0] rfl ?_
  refine imp_f_X12_farBeside_L4 C h Rr FU ((nI 0)) ((nI 0))
set_option maxHeartbeats 4000000 in
theorem ok_f_X12_farBeside   (h : CH) : ∀ q, f_X12_farBeside h = some q → MG yX12_farBeside cX12_farBeside 3 (some .int) [] 2 (fun ad => [.ref (ad 151)]) h ((fun (x : Int32) (_ : Nat → Nat) => some (Value.int x)) q) ((fun (_ : Int32) => h) q) := mg_of RX12 (by decide) rfl (fun _ => Nat.le_of_ble_eq_true rfl) (fun κ C Rr => imp_f_X12_farBeside C  h Rr)
set_option maxHeartbeats 4000000 in
set_option maxRecDepth 100000 in
theorem imp_f_X12_leastBy_L7 {κ : Kx (Int32 × CH)} (C : Cx κ cX12_leastBy RX12 6 3 (40 * 3) []) (x1 : Int32) (x2 : Int32)    (Rr : Rt κ (some .int) (fun (q : Int32 × CH) (_ : Nat → Nat) => some (Value.int q.1)) (fun (q : (Int32 × CH)) => q.2)) : ∀ (n : Nat) (x3 : Int32) (x4 : Int32) (h : CH), Imp κ 7 [(0, .ref (kad κ 151)), (1, .int (x1)), (2, .int (x2)), (3, .int (x3)), (4, .int (x4))] [] h (f_X12_leastBy_L7 x1 x2 n x3 x4 h) := by
  intro n
  induction n with
  | zero => intros; exact imp_none
  | succ n ih =>
    intro x3 x4 h
    rw [f_X12_leastBy_L7]
    refine r_iload C 9 4 rfl dX12_leastBy_7 rfl ?_
    refine r_bipush C 11 (nI 9) (by decide) dX12_leastBy_9 rfl ?_
    refine r_icmp_gt C 14 62 dX12_leastBy_11 (by decide) rfl (fun c_1 => ?_) (fun c_1 => ?_)
    · refine r_iload_n C 63 3 rfl dX12_leastBy_62 rfl ?_
      exact r_iret C Rr dX12_leastBy_63 (fun _ => rfl) rfl
    · refine r_aload_n C 15 0 rfl dX12_leastBy_14 rfl ?_
      refine r_aload_n C 16 0 rfl dX12_leastBy_15 rfl ?_
      refine r_getR C 19 dX12_leastBy_16 flX12_95 kt_151 rfl rf_151_54 rfl ?_
      refine r_iload_n C 20 1 rfl dX12_leastBy_19 rfl ?_
      refine r_iald C 21 dX12_leastBy_20 kt_178 rfl rfl (fun v_2 => ?_)
      refine r_iload_n C 22 2 rfl dX12_leastBy_21 rfl ?_
      refine r_iload C 24 4 rfl dX12_leastBy_22 rfl ?_
      refine r_aload_n C 25 0 rfl dX12_leastBy_24 rfl ?_
      refine r_iload_n C 26 1 rfl dX12_leastBy_25 rfl ?_
      refine r_cVpI C 29 [.int (x4), .int (x2), .int (v_2), .ref (kad κ 151)] (ok_f_X12_printerOf x1 h) dX12_leastBy_26 lvX12_462 kt_151 rfl rfl rfl (by decide) (Nat.le_of_ble_eq_true rfl) rfl rfl (Nat.le_of_ble_eq_true rfl) rfl rfl (fun v_3 => ?_)
      refine r_cViV C 32 [] (ok_f_X12_layMix v_2 x2 x4 v_3 h) dX12_leastBy_29 lvX12_427 kt_151 rfl rfl rfl (by decide) (Nat.le_of_ble_eq_true rfl) rfl rfl (Nat.le_of_ble_eq_true rfl) rfl rfl (fun _ h_4 => ?_)
      refine r_aload_n C 33 0 rfl dX12_leastBy_32 rfl ?_
      refine r_cVpI C 36 [] (ok_f_X12_farBeside h_4) dX12_leastBy_33 lvX12_465 kt_151 rfl rfl rfl (by decide) (Nat.le_of_ble_eq_true rfl) rfl rfl (Nat.le_of_ble_eq_true rfl) rfl rfl (fun v_5 => ?_)
      refine r_istore C 38 [(5, .int (v_5)), (0, .ref (kad κ 151)), (1, .int (x1)), (2, .int (x2)), (3, .int (x3)), (4, .int (x4))] dX12_leastBy_36 (by decide) rfl rfl ?_
      refine r_iload C 40 0 rfl dX12_leastBy_38 rfl ?_
      refine r_iload_n C 41 4 rfl dX12_leastBy_40 rfl ?_
      refine imp_jn (fun (j_8 : Int32 → CH → Option (Int32 × CH)) => ∀ (x3_6 : Int32) (h_7 : CH), Imp κ 56 [(0, .ref (kad κ 151)), (1, .int (x1)), (2, .int (x2)), (3, .int (x3_6)), (4, .int (x4))] [] h_7 (j_8 x3_6 h_7)) ?_ ?_
      · intro x3_6 h_7
        refine r_iinc C 59 4 (nI 1) [(4, .int (x4 + (nI 1))), (0, .ref (kad κ 151)), (1, .int (x1)), (2, .int (x2)), (3, .int (x3_6))] dX12_leastBy_56 rfl (by decide) (by decide) rfl rfl ?_
        refine r_goto C 7 dX12_leastBy_59 (by decide) ?_
        exact imp_sub [(0, .ref (kad κ 151)), (1, .int (x1)), (2, .int (x2)), (3, .int (x3_6)), (4, .int (x4 + (nI 1)))] [1, 2, 3, 4, 0] rfl (ih (x3_6) (x4 + (nI 1)) h_7)
      · intro j_8 hj_8
        refine r_icmp_lt C 44 47 dX12_leastBy_41 (by decide) rfl (fun c_9 => ?_) (fun c_9 => ?_)
        · refine r_iload C 49 0 rfl dX12_leastBy_47 rfl ?_
          refine r_istore_n C 50 3 [(3, .int (v_5)), (5, .int (v_5)), (0, .ref (kad κ 151)), (1, .int (x1)), (2, .int (x2)), (4, .int (x4))] dX12_leastBy_49 rfl (by decide) rfl rfl ?_
          refine r_aload_n C 51 2 rfl dX12_leastBy_50 rfl ?_
          refine r_iload C 53 5 rfl dX12_leastBy_51 rfl ?_
          refine r_putI C 56 dX12_leastBy_53 flX12_468 kt_151 rfl rfl (fun h_10 => ?_)
          exact imp_sub [(0, .ref (kad κ 151)), (1, .int (x1)), (2, .int (x2)), (3, .int (v_5)), (4, .int (x4))] [2, 3, 4, 0, 5] rfl (hj_8 (v_5) h_10)
        · refine r_goto C 56 dX12_leastBy_44 (by decide) ?_
          exact imp_sub [(0, .ref (kad κ 151)), (1, .int (x1)), (2, .int (x2)), (3, .int (x3)), (4, .int (x4))] [1, 2, 3, 4, 5] rfl (hj_8 (x3) h_4)
set_option maxHeartbeats 4000000 in
set_option maxRecDepth 100000 in
theorem imp_f_X12_leastBy {κ : Kx (Int32 × CH)} (C : Cx κ cX12_leastBy RX12 6 3 (40 * 3) []) (x1 : Int32) (x2 : Int32)  (h : CH) (Rr : Rt κ (some .int) (fun (q : Int32 × CH) (_ : Nat → Nat) => some (Value.int q.1)) (fun (q : (Int32 × CH)) => q.2)) : Imp κ 0 [(0, .ref (kad κ 151)), (1, .int (x1)), (2, .int (x2))] [] h (f_X12_leastBy x1 x2 h) := by
  unfold f_X12_leastBy
  refine r_ldc_w C 3 lkX12_461 dX12_leastBy_0 rfl ?_
  refine r_istore_n C 4 3 [(3, .int ((nI 100000))), (0, .ref (kad κ 151)), (1, .int (x1)), (2, .int (x2))] dX12_leastBy_3 rfl (by decide) rfl rfl ?_
  refine r_iconst C 5 (nI 1) (by decide) dX12_leastBy_4 rfl ?_
  refine r_istore C 7 [(4, .int ((nI 1))), (3, .int ((nI 100000))), (0, .ref (kad κ 151)), (1, .int (x1)), (2, .int (x2))] dX12_leastBy_5 (by decide) rfl rfl ?_
  refine imp_sub [(0, .ref (kad κ 151)), (1, .int (x1)), (2, .int (x2)), (3, .int ((nI 100000))), (4, .int ((nI 1)))] [2, 3, 4, 1, 0] rfl ?_
  refine imp_f_X12_leastBy_L7 C (x1) (x2) Rr FU ((nI 100000)) ((nI 1)) h
set_option maxHeartbeats 4000000 in
theorem ok_f_X12_leastBy (x1 : Int32) (x2 : Int32)  (h : CH) : ∀ q, f_X12_leastBy x1 x2 h = some q → MG yX12_leastBy cX12_leastBy 6 (some .int) [] 3 (fun ad => [.ref (ad 151), .int x1, .int x2]) h ((fun (q : Int32 × CH) (_ : Nat → Nat) => some (Value.int q.1)) q) ((fun (q : (Int32 × CH)) => q.2) q) := mg_of RX12 (by decide) rfl (fun _ => Nat.le_of_ble_eq_true rfl) (fun κ C Rr => imp_f_X12_leastBy C x1 x2 h Rr)
set_option maxHeartbeats 4000000 in
set_option maxRecDepth 100000 in
theorem imp_f_X12_findBehind_L23 {κ : Kx (Int32 × CH)} (C : Cx κ cX12_findBehind RX12 4 4 (40 * 4) []) (x1 : Int32)    (Rr : Rt κ (some .boolean) (fun (q : Int32 × CH) (_ : Nat → Nat) => some (Value.int q.1)) (fun (q : (Int32 × CH)) => q.2)) : ∀ (n : Nat) (x2 : Int32) (h : CH), Imp κ 23 [(0, .ref (kad κ 151)), (1, .int (x1)), (2, .int (x2))] [] h (f_X12_findBehind_L23 x1 n x2 h) := by
  intro n
  induction n with
  | zero => intros; exact imp_none
  | succ n ih =>
    intro x2 h
    rw [f_X12_findBehind_L23]
    refine r_iload_n C 24 2 rfl dX12_findBehind_23 rfl ?_
    refine r_aload_n C 25 0 rfl dX12_findBehind_24 rfl ?_
    refine r_cVpI C 28 [.int (x2)] (ok_f_X12_many h) dX12_findBehind_25 lvX12_399 kt_151 rfl rfl rfl (by decide) (Nat.le_of_ble_eq_true rfl) rfl rfl (Nat.le_of_ble_eq_true rfl) rfl rfl (fun v_5 => ?_)
    refine r_icmp_ge C 31 78 dX12_findBehind_28 (by decide) rfl (fun c_6 => ?_) (fun c_6 => ?_)
    · refine r_iload_n C 32 2 rfl dX12_findBehind_31 rfl ?_
      refine r_aload_n C 33 0 rfl dX12_findBehind_32 rfl ?_
      refine r_getR C 36 dX12_findBehind_33 flX12_95 kt_151 rfl rf_151_54 rfl ?_
      refine r_iload_n C 37 1 rfl dX12_findBehind_36 rfl ?_
      refine r_iald C 38 dX12_findBehind_37 kt_178 rfl rfl (fun v_7 => ?_)
      refine imp_jn (fun (j_9 : CH → Option (Int32 × CH)) => ∀ (h_8 : CH), Imp κ 72 [(0, .ref (kad κ 151)), (1, .int (x1)), (2, .int (x2))] [] h_8 (j_9 h_8)) ?_ ?_
      · intro h_8
        refine r_iinc C 75 2 (nI 1) [(2, .int (x2 + (nI 1))), (0, .ref (kad κ 151)), (1, .int (x1))] dX12_findBehind_72 rfl (by decide) (by decide) rfl rfl ?_
        refine r_goto C 23 dX12_findBehind_75 (by decide) ?_
        exact imp_sub [(0, .ref (kad κ 151)), (1, .int (x1)), (2, .int (x2 + (nI 1)))] [1, 2, 0] rfl (ih (x2 + (nI 1)) h_8)
      · intro j_9 hj_9
        refine r_icmp_ne C 41 44 dX12_findBehind_38 (by decide) rfl (fun c_10 => ?_) (fun c_10 => ?_)
        · refine r_goto C 72 dX12_findBehind_41 (by decide) ?_
          exact imp_sub [(0, .ref (kad κ 151)), (1, .int (x1)), (2, .int (x2))] [0, 1, 2] rfl (hj_9 h)
        · refine r_aload_n C 45 0 rfl dX12_findBehind_44 rfl ?_
          refine r_iload_n C 46 1 rfl dX12_findBehind_45 rfl ?_
          refine r_iload_n C 47 2 rfl dX12_findBehind_46 rfl ?_
          refine r_cViI C 50 [] (ok_f_X12_leastBy x1 x2 h) dX12_findBehind_47 lvX12_484 kt_151 rfl rfl rfl (by decide) (Nat.le_of_ble_eq_true rfl) rfl rfl (Nat.le_of_ble_eq_true rfl) rfl rfl (fun v_11 h_12 => ?_)
          refine r_istore_n C 51 3 [(3, .int (v_11)), (0, .ref (kad κ 151)), (1, .int (x1)), (2, .int (x2))] dX12_findBehind_50 rfl (by decide) rfl rfl ?_
          refine r_iload_n C 52 0 rfl dX12_findBehind_51 rfl ?_
          refine r_aload_n C 53 1 rfl dX12_findBehind_52 rfl ?_
          refine r_getI C 56 dX12_findBehind_53 flX12_481 kt_151 rfl rfl ?_
          refine r_icmp_lt C 59 62 dX12_findBehind_56 (by decide) rfl (fun c_13 => ?_) (fun c_13 => ?_)
          · refine r_aload_n C 63 1 rfl dX12_findBehind_62 rfl ?_
            refine r_iload_n C 64 3 rfl dX12_findBehind_63 rfl ?_
            refine r_putI C 67 dX12_findBehind_64 flX12_478 kt_151 rfl rfl (fun h_14 => ?_)
            refine r_aload_n C 68 1 rfl dX12_findBehind_67 rfl ?_
            refine r_iload_n C 69 0 rfl dX12_findBehind_68 rfl ?_
            refine r_putI C 72 dX12_findBehind_69 flX12_481 kt_151 rfl rfl (fun h_15 => ?_)
            exact imp_sub [(0, .ref (kad κ 151)), (1, .int (x1)), (2, .int (x2))] [1, 2, 3] rfl (hj_9 h_15)
          · refine r_goto C 72 dX12_findBehind_59 (by decide) ?_
            exact imp_sub [(0, .ref (kad κ 151)), (1, .int (x1)), (2, .int (x2))] [1, 2, 3] rfl (hj_9 h_12)
    · refine r_aload_n C 79 0 rfl dX12_findBehind_78 rfl ?_
      refine r_getI C 82 dX12_findBehind_79 flX12_478 kt_151 rfl rfl ?_
      refine imp_jn (fun (j_17 : CH → Option (Int32 × CH)) => ∀ (h_16 : CH), Imp κ 98 [(0, .ref (kad κ 151))] [] h_16 (j_17 h_16)) ?_ ?_
      · intro h_16
        refine r_aload_n C 99 0 rfl dX12_findBehind_98 rfl ?_
        refine r_getI C 102 dX12_findBehind_99 flX12_478 kt_151 rfl rfl ?_
        refine r_if_lt C 105 109 dX12_findBehind_102 (by decide) rfl (fun c_18 => ?_) (fun c_18 => ?_)
        · refine r_iconst C 110 (nI 0) (by decide) dX12_findBehind_109 rfl ?_
          exact r_zret C Rr (by decide) dX12_findBehind_110 (fun _ => rfl) rfl
        · refine r_iconst C 106 (nI 1) (by decide) dX12_findBehind_105 rfl ?_
          refine r_goto C 110 dX12_findBehind_106 (by decide) ?_
          exact r_zret C Rr (by decide) dX12_findBehind_110 (fun _ => rfl) rfl
      · intro j_17 hj_17
        refine r_if_lt C 85 98 dX12_findBehind_82 (by decide) rfl (fun c_19 => ?_) (fun c_19 => ?_)
        · exact imp_sub [(0, .ref (kad κ 151))] [0] rfl (hj_17 h)
        · refine r_aload_n C 86 0 rfl dX12_findBehind_85 rfl ?_
          refine r_aload_n C 87 0 rfl dX12_findBehind_86 rfl ?_
          refine r_iload_n C 88 1 rfl dX12_findBehind_87 rfl ?_
          refine r_aload_n C 89 0 rfl dX12_findBehind_88 rfl ?_
          refine r_getI C 92 dX12_findBehind_89 flX12_478 kt_151 rfl rfl ?_
          refine r_cViI C 95 [.ref (kad κ 151)] (ok_f_X12_leastBy x1 (h.1 151 62) h) dX12_findBehind_92 lvX12_484 kt_151 rfl rfl rfl (by decide) (Nat.le_of_ble_eq_true rfl) rfl rfl (Nat.le_of_ble_eq_true rfl) rfl rfl (fun v_20 h_21 => ?_)
          refine r_putI C 98 dX12_findBehind_95 flX12_481 kt_151 rfl rfl (fun h_22 => ?_)
          exact imp_sub [(0, .ref (kad κ 151))] [0] rfl (hj_17 h_22)
set_option maxHeartbeats 4000000 in
set_option maxRecDepth 100000 in
theorem imp_f_X12_findBehind {κ : Kx (Int32 × CH)} (C : Cx κ cX12_findBehind RX12 4 4 (40 * 4) []) (x1 : Int32)  (h : CH) (Rr : Rt κ (some .boolean) (fun (q : Int32 × CH) (_ : Nat → Nat) => some (Value.int q.1)) (fun (q : (Int32 × CH)) => q.2)) : Imp κ 0 [(0, .ref (kad κ 151)), (1, .int (x1))] [] h (f_X12_findBehind x1 h) := by
  unfold f_X12_findBehind
  refine r_aload_n C 1 0 rfl dX12_findBehind_0 rfl ?_
  refine r_iload_n C 2 1 rfl dX12_findBehind_1 rfl ?_
  refine r_cViV C 5 [] (ok_f_X12_layPaper x1 h) dX12_findBehind_2 lvX12_471 kt_151 rfl rfl rfl (by decide) (Nat.le_of_ble_eq_true rfl) rfl rfl (Nat.le_of_ble_eq_true rfl) rfl rfl (fun _ h_1 => ?_)
  refine r_aload_n C 6 0 rfl dX12_findBehind_5 rfl ?_
  refine r_cViV C 9 [] (ok_f_X12_putBeside h_1) dX12_findBehind_6 lvX12_475 kt_151 rfl rfl rfl (by decide) (Nat.le_of_ble_eq_true rfl) rfl rfl (Nat.le_of_ble_eq_true rfl) rfl rfl (fun _ h_2 => ?_)
  refine r_aload_n C 10 0 rfl dX12_findBehind_9 rfl ?_
  refine r_iconst C 11 (-1) (by decide) dX12_findBehind_10 rfl ?_
  refine r_putI C 14 dX12_findBehind_11 flX12_478 kt_151 rfl rfl (fun h_3 => ?_)
  refine r_aload_n C 15 0 rfl dX12_findBehind_14 rfl ?_
  refine r_ldc_w C 18 lkX12_461 dX12_findBehind_15 rfl ?_
  refine r_putI C 21 dX12_findBehind_18 flX12_481 kt_151 rfl rfl (fun h_4 => ?_)
  refine r_iconst C 22 (nI 0) (by decide) dX12_findBehind_21 rfl ?_
  refine r_istore_n C 23 2 [(2, .int ((nI 0))), (0, .ref (kad κ 151)), (1, .int (x1))] dX12_findBehind_22 rfl (by decide) rfl rfl ?_
  refine imp_sub [(0, .ref (kad κ 151)), (1, .int (x1)), (2, .int ((nI 0)))] [1, 2, 0] rfl ?_
  refine imp_f_X12_findBehind_L23 C (x1) Rr FU ((nI 0)) h_4
set_option maxHeartbeats 4000000 in
theorem ok_f_X12_findBehind (x1 : Int32)  (h : CH) : ∀ q, f_X12_findBehind x1 h = some q → MG yX12_findBehind cX12_findBehind 4 (some .boolean) [] 4 (fun ad => [.ref (ad 151), .int x1]) h ((fun (q : Int32 × CH) (_ : Nat → Nat) => some (Value.int q.1)) q) ((fun (q : (Int32 × CH)) => q.2) q) := mg_of RX12 (by decide) rfl (fun _ => Nat.le_of_ble_eq_true rfl) (fun κ C Rr => imp_f_X12_findBehind C x1 h Rr)
set_option maxHeartbeats 4000000 in
set_option maxRecDepth 100000 in
theorem imp_f_X12_isTold_L17 {κ : Kx (Int32 × CH)} (C : Cx κ cX12_isTold RX12 4 4 (40 * 4) []) (x1 : Int32) (x2 : Int32)    (Rr : Rt κ (some .boolean) (fun (q : Int32 × CH) (_ : Nat → Nat) => some (Value.int q.1)) (fun (q : (Int32 × CH)) => q.2)) : ∀ (n : Nat) (x3 : Int32) (h : CH), Imp κ 17 [(0, .ref (kad κ 151)), (1, .int (x1)), (2, .int (x2)), (3, .int (x3))] [] h (f_X12_isTold_L17 x1 x2 n x3 h) := by
  intro n
  induction n with
  | zero => intros; exact imp_none
  | succ n ih =>
    intro x3 h
    rw [f_X12_isTold_L17]
    refine r_iload_n C 18 3 rfl dX12_isTold_17 rfl ?_
    refine r_aload_n C 19 0 rfl dX12_isTold_18 rfl ?_
    refine r_cVpI C 22 [.int (x3)] (ok_f_X12_many h) dX12_isTold_19 lvX12_399 kt_151 rfl rfl rfl (by decide) (Nat.le_of_ble_eq_true rfl) rfl rfl (Nat.le_of_ble_eq_true rfl) rfl rfl (fun v_2 => ?_)
    refine r_icmp_ge C 25 61 dX12_isTold_22 (by decide) rfl (fun c_3 => ?_) (fun c_3 => ?_)
    · refine r_iload_n C 26 3 rfl dX12_isTold_25 rfl ?_
      refine r_aload_n C 27 0 rfl dX12_isTold_26 rfl ?_
      refine r_getR C 30 dX12_isTold_27 flX12_95 kt_151 rfl rf_151_54 rfl ?_
      refine r_iload_n C 31 1 rfl dX12_isTold_30 rfl ?_
      refine r_iald C 32 dX12_isTold_31 kt_178 rfl rfl (fun v_4 => ?_)
      refine imp_jn (fun (j_6 : CH → Option (Int32 × CH)) => ∀ (h_5 : CH), Imp κ 55 [(0, .ref (kad κ 151)), (1, .int (x1)), (2, .int (x2)), (3, .int (x3))] [] h_5 (j_6 h_5)) ?_ ?_
      · intro h_5
        refine r_iinc C 58 3 (nI 1) [(3, .int (x3 + (nI 1))), (0, .ref (kad κ 151)), (1, .int (x1)), (2, .int (x2))] dX12_isTold_55 rfl (by decide) (by decide) rfl rfl ?_
        refine r_goto C 17 dX12_isTold_58 (by decide) ?_
        exact imp_sub [(0, .ref (kad κ 151)), (1, .int (x1)), (2, .int (x2)), (3, .int (x3 + (nI 1)))] [1, 2, 3, 0] rfl (ih (x3 + (nI 1)) h_5)
      · intro j_6 hj_6
        refine r_icmp_eq C 35 55 dX12_isTold_32 (by decide) rfl (fun c_7 => ?_) (fun c_7 => ?_)
        · exact imp_sub [(0, .ref (kad κ 151)), (1, .int (x1)), (2, .int (x2)), (3, .int (x3))] [0, 1, 2, 3] rfl (hj_6 h)
        · refine r_iload_n C 36 3 rfl dX12_isTold_35 rfl ?_
          refine r_aload_n C 37 0 rfl dX12_isTold_36 rfl ?_
          refine r_getI C 40 dX12_isTold_37 flX12_478 kt_151 rfl rfl ?_
          refine r_icmp_eq C 43 55 dX12_isTold_40 (by decide) rfl (fun c_8 => ?_) (fun c_8 => ?_)
          · exact imp_sub [(0, .ref (kad κ 151)), (1, .int (x1)), (2, .int (x2)), (3, .int (x3))] [0, 1, 2, 3] rfl (hj_6 h)
          · refine r_iload_n C 44 2 rfl dX12_isTold_43 rfl ?_
            refine r_aload_n C 45 0 rfl dX12_isTold_44 rfl ?_
            refine r_iload_n C 46 1 rfl dX12_isTold_45 rfl ?_
            refine r_iload_n C 47 3 rfl dX12_isTold_46 rfl ?_
            refine r_cViI C 50 [.int (x2)] (ok_f_X12_leastBy x1 x3 h) dX12_isTold_47 lvX12_484 kt_151 rfl rfl rfl (by decide) (Nat.le_of_ble_eq_true rfl) rfl rfl (Nat.le_of_ble_eq_true rfl) rfl rfl (fun v_9 h_10 => ?_)
            refine r_icmp_lt C 53 55 dX12_isTold_50 (by decide) rfl (fun c_11 => ?_) (fun c_11 => ?_)
            · exact imp_sub [(0, .ref (kad κ 151)), (1, .int (x1)), (2, .int (x2)), (3, .int (x3))] [0, 1, 2, 3] rfl (hj_6 h_10)
            · refine r_iconst C 54 (nI 0) (by decide) dX12_isTold_53 rfl ?_
              exact r_zret C Rr (by decide) dX12_isTold_54 (fun _ => rfl) rfl
    · refine r_aload_n C 62 0 rfl dX12_isTold_61 rfl ?_
      refine r_aload_n C 63 0 rfl dX12_isTold_62 rfl ?_
      refine r_getR C 66 dX12_isTold_63 flX12_95 kt_151 rfl rf_151_54 rfl ?_
      refine r_iload_n C 67 1 rfl dX12_isTold_66 rfl ?_
      refine r_iald C 68 dX12_isTold_67 kt_178 rfl rfl (fun v_12 => ?_)
      refine r_aload_n C 69 0 rfl dX12_isTold_68 rfl ?_
      refine r_getR C 72 dX12_isTold_69 flX12_95 kt_151 rfl rf_151_54 rfl ?_
      refine r_iload_n C 73 1 rfl dX12_isTold_72 rfl ?_
      refine r_iald C 74 dX12_isTold_73 kt_178 rfl rfl (fun v_13 => ?_)
      refine r_bipush C 76 (nI 10) (by decide) dX12_isTold_74 rfl ?_
      refine r_aload_n C 77 0 rfl dX12_isTold_76 rfl ?_
      refine r_iload_n C 78 1 rfl dX12_isTold_77 rfl ?_
      refine r_cVpI C 81 [.int ((nI 10)), .int (v_13), .int (v_12), .ref (kad κ 151)] (ok_f_X12_printerOf x1 h) dX12_isTold_78 lvX12_462 kt_151 rfl rfl rfl (by decide) (Nat.le_of_ble_eq_true rfl) rfl rfl (Nat.le_of_ble_eq_true rfl) rfl rfl (fun v_14 => ?_)
      refine r_cViV C 84 [] (ok_f_X12_layMix v_12 v_13 ((nI 10)) v_14 h) dX12_isTold_81 lvX12_427 kt_151 rfl rfl rfl (by decide) (Nat.le_of_ble_eq_true rfl) rfl rfl (Nat.le_of_ble_eq_true rfl) rfl rfl (fun _ h_15 => ?_)
      refine r_iload_n C 85 2 rfl dX12_isTold_84 rfl ?_
      refine r_aload_n C 86 0 rfl dX12_isTold_85 rfl ?_
      refine r_cVpI C 89 [.int (x2)] (ok_f_X12_farBeside h_15) dX12_isTold_86 lvX12_465 kt_151 rfl rfl rfl (by decide) (Nat.le_of_ble_eq_true rfl) rfl rfl (Nat.le_of_ble_eq_true rfl) rfl rfl (fun v_16 => ?_)
      refine r_icmp_ge C 92 96 dX12_isTold_89 (by decide) rfl (fun c_17 => ?_) (fun c_17 => ?_)
      · refine r_iconst C 93 (nI 1) (by decide) dX12_isTold_92 rfl ?_
        refine r_goto C 97 dX12_isTold_93 (by decide) ?_
        exact r_zret C Rr (by decide) dX12_isTold_97 (fun _ => rfl) rfl
      · refine r_iconst C 97 (nI 0) (by decide) dX12_isTold_96 rfl ?_
        exact r_zret C Rr (by decide) dX12_isTold_97 (fun _ => rfl) rfl
set_option maxHeartbeats 4000000 in
set_option maxRecDepth 100000 in
theorem imp_f_X12_isTold {κ : Kx (Int32 × CH)} (C : Cx κ cX12_isTold RX12 4 4 (40 * 4) []) (x1 : Int32)  (h : CH) (Rr : Rt κ (some .boolean) (fun (q : Int32 × CH) (_ : Nat → Nat) => some (Value.int q.1)) (fun (q : (Int32 × CH)) => q.2)) : Imp κ 0 [(0, .ref (kad κ 151)), (1, .int (x1))] [] h (f_X12_isTold x1 h) := by
  unfold f_X12_isTold
  refine r_aload_n C 1 0 rfl dX12_isTold_0 rfl ?_
  refine r_getI C 4 dX12_isTold_1 flX12_481 kt_151 rfl rfl ?_
  refine r_aload_n C 5 0 rfl dX12_isTold_4 rfl ?_
  refine r_getR C 8 dX12_isTold_5 flX12_30 kt_151 rfl rf_151_15 rfl ?_
  refine r_aload_n C 9 0 rfl dX12_isTold_8 rfl ?_
  refine r_getI C 12 dX12_isTold_9 flX12_269 kt_151 rfl rfl ?_
  refine r_iald C 13 dX12_isTold_12 kt_157 rfl rfl (fun v_1 => ?_)
  refine r_iadd C 14 dX12_isTold_13 rfl ?_
  refine r_istore_n C 15 2 [(2, .int ((h.1 151 64) + (v_1))), (0, .ref (kad κ 151)), (1, .int (x1))] dX12_isTold_14 rfl (by decide) rfl rfl ?_
  refine r_iconst C 16 (nI 0) (by decide) dX12_isTold_15 rfl ?_
  refine r_istore_n C 17 3 [(3, .int ((nI 0))), (2, .int ((h.1 151 64) + (v_1))), (0, .ref (kad κ 151)), (1, .int (x1))] dX12_isTold_16 rfl (by decide) rfl rfl ?_
  refine imp_sub [(0, .ref (kad κ 151)), (1, .int (x1)), (2, .int ((h.1 151 64) + (v_1))), (3, .int ((nI 0)))] [2, 3, 1, 0] rfl ?_
  refine imp_f_X12_isTold_L17 C (x1) ((h.1 151 64) + (v_1)) Rr FU ((nI 0)) h
set_option maxHeartbeats 4000000 in
theorem ok_f_X12_isTold (x1 : Int32)  (h : CH) : ∀ q, f_X12_isTold x1 h = some q → MG yX12_isTold cX12_isTold 4 (some .boolean) [] 4 (fun ad => [.ref (ad 151), .int x1]) h ((fun (q : Int32 × CH) (_ : Nat → Nat) => some (Value.int q.1)) q) ((fun (q : (Int32 × CH)) => q.2) q) := mg_of RX12 (by decide) rfl (fun _ => Nat.le_of_ble_eq_true rfl) (fun κ C Rr => imp_f_X12_isTold C x1 h Rr)
set_option maxHeartbeats 4000000 in
set_option maxRecDepth 100000 in
theorem imp_f_X12_behind {κ : Kx (Int32 × CH)} (C : Cx κ cX12_behind RX12 4 5 (40 * 5) []) (x1 : Int32) (x2 : Int32) (x3 : Int32)  (h : CH) (Rr : Rt κ (some .int) (fun (q : Int32 × CH) (_ : Nat → Nat) => some (Value.int q.1)) (fun (q : (Int32 × CH)) => q.2)) : Imp κ 0 [(0, .ref (kad κ 151)), (1, .int (x1)), (2, .int (x2)), (3, .int (x3))] [] h (f_X12_behind x1 x2 x3 h) := by
  unfold f_X12_behind
  refine r_aload_n C 1 0 rfl dX12_behind_0 rfl ?_
  refine r_iload_n C 2 1 rfl dX12_behind_1 rfl ?_
  refine r_iload_n C 3 3 rfl dX12_behind_2 rfl ?_
  refine r_cVpI C 6 [] (ok_f_X12_counts x1 x3 h) dX12_behind_3 lvX12_487 kt_151 rfl rfl rfl (by decide) (Nat.le_of_ble_eq_true rfl) rfl rfl (Nat.le_of_ble_eq_true rfl) rfl rfl (fun v_1 => ?_)
  refine r_if_eq C 9 26 dX12_behind_6 (by decide) rfl (fun c_2 => ?_) (fun c_2 => ?_)
  · refine r_iconst C 27 (-1) (by decide) dX12_behind_26 rfl ?_
    exact r_iret C Rr dX12_behind_27 (fun _ => rfl) rfl
  · refine r_iload_n C 10 2 rfl dX12_behind_9 rfl ?_
    refine r_iconst C 11 (nI 0) (by decide) dX12_behind_10 rfl ?_
    refine r_iconst C 12 (nI 3) (by decide) dX12_behind_11 rfl ?_
    refine r_cSpI C 15 [] (ok_f_X12_isIn x2 ((nI 0)) ((nI 3)) h) dX12_behind_12 lsX12_402 rfl (by decide) (Nat.le_of_ble_eq_true rfl) rfl rfl (Nat.le_of_ble_eq_true rfl) rfl rfl (fun v_3 => ?_)
    refine r_if_eq C 18 26 dX12_behind_15 (by decide) rfl (fun c_4 => ?_) (fun c_4 => ?_)
    · refine r_iconst C 27 (-1) (by decide) dX12_behind_26 rfl ?_
      exact r_iret C Rr dX12_behind_27 (fun _ => rfl) rfl
    · refine r_aload_n C 19 0 rfl dX12_behind_18 rfl ?_
      refine r_iload_n C 20 1 rfl dX12_behind_19 rfl ?_
      refine r_cViI C 23 [] (ok_f_X12_findBehind x1 h) dX12_behind_20 lvX12_490 kt_151 rfl rfl rfl (by decide) (Nat.le_of_ble_eq_true rfl) rfl rfl (Nat.le_of_ble_eq_true rfl) rfl rfl (fun v_5 h_6 => ?_)
      refine r_if_ne C 26 28 dX12_behind_23 (by decide) rfl (fun c_7 => ?_) (fun c_7 => ?_)
      · refine r_iconst C 27 (-1) (by decide) dX12_behind_26 rfl ?_
        exact r_iret C Rr dX12_behind_27 (fun _ => rfl) rfl
      · refine r_iload_n C 29 2 rfl dX12_behind_28 rfl ?_
        refine r_if_ne C 32 39 dX12_behind_29 (by decide) rfl (fun c_8 => ?_) (fun c_8 => ?_)
        · refine r_aload_n C 33 0 rfl dX12_behind_32 rfl ?_
          refine r_getI C 36 dX12_behind_33 flX12_478 kt_151 rfl rfl ?_
          refine r_goto C 76 dX12_behind_36 (by decide) ?_
          exact r_iret C Rr dX12_behind_76 (fun _ => rfl) rfl
        · refine r_iload_n C 40 2 rfl dX12_behind_39 rfl ?_
          refine r_iconst C 41 (nI 1) (by decide) dX12_behind_40 rfl ?_
          refine r_icmp_ne C 44 51 dX12_behind_41 (by decide) rfl (fun c_9 => ?_) (fun c_9 => ?_)
          · refine r_aload_n C 45 0 rfl dX12_behind_44 rfl ?_
            refine r_getI C 48 dX12_behind_45 flX12_468 kt_151 rfl rfl ?_
            refine r_goto C 76 dX12_behind_48 (by decide) ?_
            exact r_iret C Rr dX12_behind_76 (fun _ => rfl) rfl
          · refine r_iload_n C 52 2 rfl dX12_behind_51 rfl ?_
            refine r_iconst C 53 (nI 2) (by decide) dX12_behind_52 rfl ?_
            refine r_icmp_ne C 56 63 dX12_behind_53 (by decide) rfl (fun c_10 => ?_) (fun c_10 => ?_)
            · refine r_aload_n C 57 0 rfl dX12_behind_56 rfl ?_
              refine r_getI C 60 dX12_behind_57 flX12_481 kt_151 rfl rfl ?_
              refine r_goto C 76 dX12_behind_60 (by decide) ?_
              exact r_iret C Rr dX12_behind_76 (fun _ => rfl) rfl
            · refine r_aload_n C 64 0 rfl dX12_behind_63 rfl ?_
              refine r_iload_n C 65 1 rfl dX12_behind_64 rfl ?_
              refine r_cViI C 68 [] (ok_f_X12_isTold x1 h_6) dX12_behind_65 lvX12_493 kt_151 rfl rfl rfl (by decide) (Nat.le_of_ble_eq_true rfl) rfl rfl (Nat.le_of_ble_eq_true rfl) rfl rfl (fun v_11 h_12 => ?_)
              refine r_if_eq C 71 75 dX12_behind_68 (by decide) rfl (fun c_13 => ?_) (fun c_13 => ?_)
              · refine r_iconst C 76 (nI 0) (by decide) dX12_behind_75 rfl ?_
                exact r_iret C Rr dX12_behind_76 (fun _ => rfl) rfl
              · refine r_iconst C 72 (nI 1) (by decide) dX12_behind_71 rfl ?_
                refine r_goto C 76 dX12_behind_72 (by decide) ?_
                exact r_iret C Rr dX12_behind_76 (fun _ => rfl) rfl
set_option maxHeartbeats 4000000 in
theorem ok_f_X12_behind (x1 : Int32) (x2 : Int32) (x3 : Int32)  (h : CH) : ∀ q, f_X12_behind x1 x2 x3 h = some q → MG yX12_behind cX12_behind 4 (some .int) [] 5 (fun ad => [.ref (ad 151), .int x1, .int x2, .int x3]) h ((fun (q : Int32 × CH) (_ : Nat → Nat) => some (Value.int q.1)) q) ((fun (q : (Int32 × CH)) => q.2) q) := mg_of RX12 (by decide) rfl (fun _ => Nat.le_of_ble_eq_true rfl) (fun κ C Rr => imp_f_X12_behind C x1 x2 x3 h Rr)
set_option maxHeartbeats 4000000 in
set_option maxRecDepth 100000 in
theorem imp_f_X12_hangs {κ : Kx Int32} (C : Cx κ cX12_hangs RX12 4 2 (40 * 2) []) (x1 : Int32) (x2 : Int32)  (h : CH) (Rr : Rt κ (some .boolean) (fun (x : Int32) (_ : Nat → Nat) => some (Value.int x)) (fun (_ : Int32) => h)) : Imp κ 0 [(0, .ref (kad κ 151)), (1, .int (x1)), (2, .int (x2))] [] h (f_X12_hangs x1 x2 h) := by
  unfold f_X12_hangs
  refine r_aload_n C 1 0 rfl dX12_hangs_0 rfl ?_
  refine r_getR C 4 dX12_hangs_1 flX12_104 kt_151 rfl rf_151_57 rfl ?_
  refine r_iload_n C 5 1 rfl dX12_hangs_4 rfl ?_
  refine r_iald C 6 dX12_hangs_5 kt_181 rfl rfl (fun v_1 => ?_)
  refine r_bipush C 8 (nI 100) (by decide) dX12_hangs_6 rfl ?_
  refine r_iremk C 9 (by decide) dX12_hangs_8 rfl ?_
  refine r_aload_n C 10 0 rfl dX12_hangs_9 rfl ?_
  refine r_getR C 13 dX12_hangs_10 flX12_104 kt_151 rfl rf_151_57 rfl ?_
  refine r_iload_n C 14 2 rfl dX12_hangs_13 rfl ?_
  refine r_iald C 15 dX12_hangs_14 kt_181 rfl rfl (fun v_2 => ?_)
  refine r_bipush C 17 (nI 100) (by decide) dX12_hangs_15 rfl ?_
  refine r_iremk C 18 (by decide) dX12_hangs_17 rfl ?_
  refine imp_jn (fun (j_4 : Int32 → Option Int32) => ∀ (s_3 : Int32), Imp κ 52 [(0, .ref (kad κ 151)), (1, .int (x1)), (2, .int (x2))] [.int (s_3)] h (j_4 s_3)) ?_ ?_
  · intro s_3
    refine r_istore_n C 53 3 [(3, .int (s_3)), (0, .ref (kad κ 151)), (1, .int (x1)), (2, .int (x2))] dX12_hangs_52 rfl (by decide) rfl rfl ?_
    refine r_iload_n C 54 0 rfl dX12_hangs_53 rfl ?_
    refine imp_jn (fun (j_5 : Option Int32) =>  Imp κ 104 [] [] h (j_5)) ?_ ?_
    · refine r_iconst C 105 (nI 1) (by decide) dX12_hangs_104 rfl ?_
      refine r_goto C 109 dX12_hangs_105 (by decide) ?_
      exact r_zret C Rr (by decide) dX12_hangs_109 (fun _ => rfl) rfl
    · intro j_5 hj_5
      refine r_if_ne C 57 104 dX12_hangs_54 (by decide) rfl (fun c_6 => ?_) (fun c_6 => ?_)
      · refine r_aload_n C 58 1 rfl dX12_hangs_57 rfl ?_
        refine r_getR C 61 dX12_hangs_58 flX12_95 kt_151 rfl rf_151_54 rfl ?_
        refine r_iload_n C 62 2 rfl dX12_hangs_61 rfl ?_
        refine r_iald C 63 dX12_hangs_62 kt_178 rfl rfl (fun v_7 => ?_)
        refine r_aload_n C 64 1 rfl dX12_hangs_63 rfl ?_
        refine r_getR C 67 dX12_hangs_64 flX12_95 kt_151 rfl rf_151_54 rfl ?_
        refine r_iload_n C 68 3 rfl dX12_hangs_67 rfl ?_
        refine r_iald C 69 dX12_hangs_68 kt_178 rfl rfl (fun v_8 => ?_)
        refine r_icmp_eq C 72 104 dX12_hangs_69 (by decide) rfl (fun c_9 => ?_) (fun c_9 => ?_)
        · exact imp_sub [] [] rfl (hj_5)
        · refine r_aload_n C 73 1 rfl dX12_hangs_72 rfl ?_
          refine r_getR C 76 dX12_hangs_73 flX12_42 kt_151 rfl rf_151_19 rfl ?_
          refine r_bipush C 78 (nI 16) (by decide) dX12_hangs_76 rfl ?_
          refine r_aload_n C 79 1 rfl dX12_hangs_78 rfl ?_
          refine r_getI C 82 dX12_hangs_79 flX12_269 kt_151 rfl rfl ?_
          refine r_imul C 83 dX12_hangs_82 rfl ?_
          refine r_aload_n C 84 1 rfl dX12_hangs_83 rfl ?_
          refine r_getR C 87 dX12_hangs_84 flX12_95 kt_151 rfl rf_151_54 rfl ?_
          refine r_iload_n C 88 2 rfl dX12_hangs_87 rfl ?_
          refine r_iald C 89 dX12_hangs_88 kt_178 rfl rfl (fun v_10 => ?_)
          refine r_iadd C 90 dX12_hangs_89 rfl ?_
          refine r_iald C 91 dX12_hangs_90 kt_161 rfl rfl (fun v_11 => ?_)
          refine r_aload_n C 92 1 rfl dX12_hangs_91 rfl ?_
          refine r_getR C 95 dX12_hangs_92 flX12_95 kt_151 rfl rf_151_54 rfl ?_
          refine r_iload_n C 96 3 rfl dX12_hangs_95 rfl ?_
          refine r_iald C 97 dX12_hangs_96 kt_178 rfl rfl (fun v_12 => ?_)
          refine r_ishr C 98 dX12_hangs_97 rfl ?_
          refine r_iconst C 99 (nI 1) (by decide) dX12_hangs_98 rfl ?_
          refine r_iand C 100 dX12_hangs_99 rfl ?_
          refine r_iconst C 101 (nI 1) (by decide) dX12_hangs_100 rfl ?_
          refine r_icmp_ne C 104 108 dX12_hangs_101 (by decide) rfl (fun c_13 => ?_) (fun c_13 => ?_)
          · exact imp_sub [] [] rfl (hj_5)
          · refine r_iconst C 109 (nI 0) (by decide) dX12_hangs_108 rfl ?_
            exact r_zret C Rr (by decide) dX12_hangs_109 (fun _ => rfl) rfl
      · exact imp_sub [] [] rfl (hj_5)
  · intro j_4 hj_4
    refine imp_jn (fun (j_14 : Option Int32) =>  Imp κ 51 [(0, .ref (kad κ 151)), (1, .int (x1)), (2, .int (x2))] [] h (j_14)) ?_ ?_
    · refine r_iconst C 52 (nI 0) (by decide) dX12_hangs_51 rfl ?_
      exact imp_sub [(0, .ref (kad κ 151)), (1, .int (x1)), (2, .int (x2))] [0, 1, 2] rfl (hj_4 ((nI 0)))
    · intro j_14 hj_14
      refine r_icmp_ne C 21 51 dX12_hangs_18 (by decide) rfl (fun c_15 => ?_) (fun c_15 => ?_)
      · refine r_aload_n C 22 0 rfl dX12_hangs_21 rfl ?_
        refine r_getR C 25 dX12_hangs_22 flX12_104 kt_151 rfl rf_151_57 rfl ?_
        refine r_iload_n C 26 1 rfl dX12_hangs_25 rfl ?_
        refine r_iald C 27 dX12_hangs_26 kt_181 rfl rfl (fun v_16 => ?_)
        refine r_bipush C 29 (nI 100) (by decide) dX12_hangs_27 rfl ?_
        refine r_idivk C 30 (by decide) dX12_hangs_29 rfl ?_
        refine r_aload_n C 31 0 rfl dX12_hangs_30 rfl ?_
        refine r_getR C 34 dX12_hangs_31 flX12_104 kt_151 rfl rf_151_57 rfl ?_
        refine r_iload_n C 35 2 rfl dX12_hangs_34 rfl ?_
        refine r_iald C 36 dX12_hangs_35 kt_181 rfl rfl (fun v_17 => ?_)
        refine r_bipush C 38 (nI 100) (by decide) dX12_hangs_36 rfl ?_
        refine r_idivk C 39 (by decide) dX12_hangs_38 rfl ?_
        refine r_isub C 40 dX12_hangs_39 rfl ?_
        refine r_cSpI C 43 [] (ok_f_X12_sizeOf (((v_16) / ((nI 100))) - ((v_17) / ((nI 100)))) h) dX12_hangs_40 lsX12_412 rfl (by decide) (Nat.le_of_ble_eq_true rfl) rfl rfl (Nat.le_of_ble_eq_true rfl) rfl rfl (fun v_18 => ?_)
        refine r_iconst C 44 (nI 2) (by decide) dX12_hangs_43 rfl ?_
        refine r_icmp_gt C 47 51 dX12_hangs_44 (by decide) rfl (fun c_19 => ?_) (fun c_19 => ?_)
        · exact imp_sub [(0, .ref (kad κ 151)), (1, .int (x1)), (2, .int (x2))] [0, 1, 2] rfl (hj_14)
        · refine r_iconst C 48 (nI 1) (by decide) dX12_hangs_47 rfl ?_
          refine r_goto C 52 dX12_hangs_48 (by decide) ?_
          exact imp_sub [(0, .ref (kad κ 151)), (1, .int (x1)), (2, .int (x2))] [0, 1, 2] rfl (hj_4 ((nI 1)))
      · exact imp_sub [(0, .ref (kad κ 151)), (1, .int (x1)), (2, .int (x2))] [0, 1, 2] rfl (hj_14)
set_option maxHeartbeats 4000000 in
theorem ok_f_X12_hangs (x1 : Int32) (x2 : Int32)  (h : CH) : ∀ q, f_X12_hangs x1 x2 h = some q → MG yX12_hangs cX12_hangs 4 (some .boolean) [] 2 (fun ad => [.ref (ad 151), .int x1, .int x2]) h ((fun (x : Int32) (_ : Nat → Nat) => some (Value.int x)) q) ((fun (_ : Int32) => h) q) := mg_of RX12 (by decide) rfl (fun _ => Nat.le_of_ble_eq_true rfl) (fun κ C Rr => imp_f_X12_hangs C x1 x2 h Rr)
set_option maxHeartbeats 4000000 in
set_option maxRecDepth 100000 in
theorem imp_f_X12_layRing_L58 {κ : Kx (Int32 × CH)} (C : Cx κ cX12_layRing RX12 7 3 (40 * 3) []) (x2 : Int32) (x5 : Int32)  (k131 : Int32 → Int32 → CH → Option (Int32 × CH)) (hk131 : ∀ (x3_12 : Int32) (x4_13 : Int32) (h_14 : CH), Imp κ 131 [(0, .ref (kad κ 151)), (2, .int (x2)), (3, .int (x3_12)), (4, .int (x4_13)), (5, .int (x5))] [] h_14 (k131 x3_12 x4_13 h_14)) (Rr : Rt κ (some .int) (fun (q : Int32 × CH) (_ : Nat → Nat) => some (Value.int q.1)) (fun (q : (Int32 × CH)) => q.2)) : ∀ (n : Nat) (x3 : Int32) (x4 : Int32) (x6 : Int32) (h : CH), Imp κ 58 [(0, .ref (kad κ 151)), (2, .int (x2)), (3, .int (x3)), (4, .int (x4)), (5, .int (x5)), (6, .int (x6))] [] h (f_X12_layRing_L58 x2 x5 k131 n x3 x4 x6 h) := by
  intro n
  induction n with
  | zero => intros; exact imp_none
  | succ n ih =>
    intro x3 x4 x6 h
    rw [f_X12_layRing_L58]
    refine r_iload C 60 5 rfl dX12_layRing_58 rfl ?_
    refine r_aload_n C 61 0 rfl dX12_layRing_60 rfl ?_
    refine r_getI C 64 dX12_layRing_61 flX12_275 kt_151 rfl rfl ?_
    refine r_icmp_ge C 67 131 dX12_layRing_64 (by decide) rfl (fun c_15 => ?_) (fun c_15 => ?_)
    · refine r_aload_n C 68 0 rfl dX12_layRing_67 rfl ?_
      refine r_getR C 71 dX12_layRing_68 flX12_113 kt_151 rfl rf_151_65 rfl ?_
      refine r_iload C 73 4 rfl dX12_layRing_71 rfl ?_
      refine r_zald C 74 dX12_layRing_73 kt_184 rfl rfl (fun v_16 => ?_)
      refine r_if_ne C 77 131 dX12_layRing_74 (by decide) rfl (fun c_17 => ?_) (fun c_17 => ?_)
      · refine r_aload_n C 78 0 rfl dX12_layRing_77 rfl ?_
        refine r_iload C 80 4 rfl dX12_layRing_78 rfl ?_
        refine r_iload_n C 81 1 rfl dX12_layRing_80 rfl ?_
        refine r_cVpI C 84 [] (ok_f_X12_counts x5 x2 h) dX12_layRing_81 lvX12_487 kt_151 rfl rfl rfl (by decide) (Nat.le_of_ble_eq_true rfl) rfl rfl (Nat.le_of_ble_eq_true rfl) rfl rfl (fun v_18 => ?_)
        refine r_if_eq C 87 131 dX12_layRing_84 (by decide) rfl (fun c_19 => ?_) (fun c_19 => ?_)
        · exact imp_sub [(0, .ref (kad κ 151)), (2, .int (x2)), (3, .int (x3)), (4, .int (x4)), (5, .int (x5))] [0, 1, 2, 3, 4] rfl (hk131 (x3) (x4) h)
        · refine r_aload_n C 88 0 rfl dX12_layRing_87 rfl ?_
          refine r_getR C 91 dX12_layRing_88 flX12_113 kt_151 rfl rf_151_65 rfl ?_
          refine r_iload C 93 5 rfl dX12_layRing_91 rfl ?_
          refine r_zald C 94 dX12_layRing_93 kt_184 rfl rfl (fun v_20 => ?_)
          refine imp_jn (fun (j_24 : Int32 → Int32 → CH → Option (Int32 × CH)) => ∀ (x3_21 : Int32) (x4_22 : Int32) (h_23 : CH), Imp κ 125 [(0, .ref (kad κ 151)), (2, .int (x2)), (3, .int (x3_21)), (4, .int (x4_22)), (5, .int (x5)), (6, .int (x6))] [] h_23 (j_24 x3_21 x4_22 h_23)) ?_ ?_
          · intro x3_21 x4_22 h_23
            refine r_iinc C 128 5 (nI 1) [(6, .int (x6 + (nI 1))), (0, .ref (kad κ 151)), (2, .int (x2)), (3, .int (x3_21)), (4, .int (x4_22)), (5, .int (x5))] dX12_layRing_125 rfl (by decide) (by decide) rfl rfl ?_
            refine r_goto C 58 dX12_layRing_128 (by decide) ?_
            exact imp_sub [(0, .ref (kad κ 151)), (2, .int (x2)), (3, .int (x3_21)), (4, .int (x4_22)), (5, .int (x5)), (6, .int (x6 + (nI 1)))] [1, 2, 3, 4, 5, 0] rfl (ih (x3_21) (x4_22) (x6 + (nI 1)) h_23)
          · intro j_24 hj_24
            refine r_if_eq C 97 125 dX12_layRing_94 (by decide) rfl (fun c_25 => ?_) (fun c_25 => ?_)
            · exact imp_sub [(0, .ref (kad κ 151)), (2, .int (x2)), (3, .int (x3)), (4, .int (x4)), (5, .int (x5)), (6, .int (x6))] [0, 1, 2, 3, 4, 5] rfl (hj_24 (x3) (x4) h)
            · refine r_aload_n C 98 0 rfl dX12_layRing_97 rfl ?_
              refine r_iload C 100 4 rfl dX12_layRing_98 rfl ?_
              refine r_iload C 102 5 rfl dX12_layRing_100 rfl ?_
              refine r_cVpI C 105 [] (ok_f_X12_hangs x5 x6 h) dX12_layRing_102 lvX12_496 kt_151 rfl rfl rfl (by decide) (Nat.le_of_ble_eq_true rfl) rfl rfl (Nat.le_of_ble_eq_true rfl) rfl rfl (fun v_26 => ?_)
              refine r_if_ne C 108 111 dX12_layRing_105 (by decide) rfl (fun c_27 => ?_) (fun c_27 => ?_)
              · refine r_goto C 125 dX12_layRing_108 (by decide) ?_
                exact imp_sub [(0, .ref (kad κ 151)), (2, .int (x2)), (3, .int (x3)), (4, .int (x4)), (5, .int (x5)), (6, .int (x6))] [0, 1, 2, 3, 4, 5] rfl (hj_24 (x3) (x4) h)
              · refine r_aload_n C 112 0 rfl dX12_layRing_111 rfl ?_
                refine r_getR C 115 dX12_layRing_112 flX12_113 kt_151 rfl rf_151_65 rfl ?_
                refine r_iload C 117 4 rfl dX12_layRing_115 rfl ?_
                refine r_iconst C 118 (nI 1) (by decide) dX12_layRing_117 rfl ?_
                refine r_zast C 119 dX12_layRing_118 kt_184 rfl rfl (fun h_28 => ?_)
                refine r_iinc C 122 2 (nI 1) [(3, .int (x3 + (nI 1))), (0, .ref (kad κ 151)), (2, .int (x2)), (4, .int (x4)), (5, .int (x5)), (6, .int (x6))] dX12_layRing_119 rfl (by decide) (by decide) rfl rfl ?_
                refine r_iconst C 123 (nI 1) (by decide) dX12_layRing_122 rfl ?_
                refine r_istore C 125 [(4, .int ((nI 1))), (3, .int (x3 + (nI 1))), (0, .ref (kad κ 151)), (2, .int (x2)), (5, .int (x5)), (6, .int (x6))] dX12_layRing_123 (by decide) rfl rfl ?_
                exact imp_sub [(0, .ref (kad κ 151)), (2, .int (x2)), (3, .int (x3 + (nI 1))), (4, .int ((nI 1))), (5, .int (x5)), (6, .int (x6))] [2, 3, 1, 0, 4, 5] rfl (hj_24 (x3 + (nI 1)) ((nI 1)) h_28)
      · exact imp_sub [(0, .ref (kad κ 151)), (2, .int (x2)), (3, .int (x3)), (4, .int (x4)), (5, .int (x5))] [0, 1, 2, 3, 4] rfl (hk131 (x3) (x4) h)
    · exact imp_sub [(0, .ref (kad κ 151)), (2, .int (x2)), (3, .int (x3)), (4, .int (x4)), (5, .int (x5))] [0, 1, 2, 3, 4] rfl (hk131 (x3) (x4) h)
set_option maxHeartbeats 4000000 in
set_option maxRecDepth 100000 in
theorem imp_f_X12_layRing_L46 {κ : Kx (Int32 × CH)} (C : Cx κ cX12_layRing RX12 7 3 (40 * 3) []) (x2 : Int32)  (k137 : Int32 → Int32 → CH → Option (Int32 × CH)) (hk137 : ∀ (x3_8 : Int32) (x4_9 : Int32) (h_10 : CH), Imp κ 137 [(0, .ref (kad κ 151)), (2, .int (x2)), (3, .int (x3_8)), (4, .int (x4_9))] [] h_10 (k137 x3_8 x4_9 h_10)) (Rr : Rt κ (some .int) (fun (q : Int32 × CH) (_ : Nat → Nat) => some (Value.int q.1)) (fun (q : (Int32 × CH)) => q.2)) : ∀ (n : Nat) (x3 : Int32) (x4 : Int32) (x5 : Int32) (h : CH), Imp κ 46 [(0, .ref (kad κ 151)), (2, .int (x2)), (3, .int (x3)), (4, .int (x4)), (5, .int (x5))] [] h (f_X12_layRing_L46 x2 k137 n x3 x4 x5 h) := by
  intro n
  induction n with
  | zero => intros; exact imp_none
  | succ n ih =>
    intro x3 x4 x5 h
    rw [f_X12_layRing_L46]
    refine r_iload C 48 4 rfl dX12_layRing_46 rfl ?_
    refine r_aload_n C 49 0 rfl dX12_layRing_48 rfl ?_
    refine r_getI C 52 dX12_layRing_49 flX12_275 kt_151 rfl rfl ?_
    refine r_icmp_ge C 55 137 dX12_layRing_52 (by decide) rfl (fun c_11 => ?_) (fun c_11 => ?_)
    · refine r_iconst C 56 (nI 0) (by decide) dX12_layRing_55 rfl ?_
      refine r_istore C 58 [(6, .int ((nI 0))), (0, .ref (kad κ 151)), (2, .int (x2)), (3, .int (x3)), (4, .int (x4)), (5, .int (x5))] dX12_layRing_56 (by decide) rfl rfl ?_
      refine imp_sub [(0, .ref (kad κ 151)), (2, .int (x2)), (3, .int (x3)), (4, .int (x4)), (5, .int (x5)), (6, .int ((nI 0)))] [1, 2, 3, 4, 5, 0] rfl ?_
      refine imp_f_X12_layRing_L58 C (x2) (x5) _ ?_ Rr FU (x3) (x4) ((nI 0)) h
      · intro x3_12 x4_13 h_14
        refine r_iinc C 134 4 (nI 1) [(5, .int (x5 + (nI 1))), (0, .ref (kad κ 151)), (2, .int (x2)), (3, .int (x3_12)), (4, .int (x4_13))] dX12_layRing_131 rfl (by decide) (by decide) rfl rfl ?_
        refine r_goto C 46 dX12_layRing_134 (by decide) ?_
        exact imp_sub [(0, .ref (kad κ 151)), (2, .int (x2)), (3, .int (x3_12)), (4, .int (x4_13)), (5, .int (x5 + (nI 1)))] [1, 2, 3, 4, 0] rfl (ih (x3_12) (x4_13) (x5 + (nI 1)) h_14)
    · exact imp_sub [(0, .ref (kad κ 151)), (2, .int (x2)), (3, .int (x3)), (4, .int (x4))] [0, 1, 2, 3] rfl (hk137 (x3) (x4) h)
set_option maxHeartbeats 4000000 in
set_option maxRecDepth 100000 in
theorem imp_f_X12_layRing_L35 {κ : Kx (Int32 × CH)} (C : Cx κ cX12_layRing RX12 7 3 (40 * 3) []) (x2 : Int32)    (Rr : Rt κ (some .int) (fun (q : Int32 × CH) (_ : Nat → Nat) => some (Value.int q.1)) (fun (q : (Int32 × CH)) => q.2)) : ∀ (n : Nat) (x3 : Int32) (x4 : Int32) (h : CH), Imp κ 35 [(0, .ref (kad κ 151)), (2, .int (x2)), (3, .int (x3)), (4, .int (x4))] [] h (f_X12_layRing_L35 x2 n x3 x4 h) := by
  intro n
  induction n with
  | zero => intros; exact imp_none
  | succ n ih =>
    intro x3 x4 h
    rw [f_X12_layRing_L35]
    refine r_iload C 37 3 rfl dX12_layRing_35 rfl ?_
    refine r_if_eq C 40 140 dX12_layRing_37 (by decide) rfl (fun c_7 => ?_) (fun c_7 => ?_)
    · refine r_iload_n C 141 2 rfl dX12_layRing_140 rfl ?_
      exact r_iret C Rr dX12_layRing_141 (fun _ => rfl) rfl
    · refine r_iconst C 41 (nI 0) (by decide) dX12_layRing_40 rfl ?_
      refine r_istore C 43 [(4, .int ((nI 0))), (0, .ref (kad κ 151)), (2, .int (x2)), (3, .int (x3))] dX12_layRing_41 (by decide) rfl rfl ?_
      refine r_iconst C 44 (nI 0) (by decide) dX12_layRing_43 rfl ?_
      refine r_istore C 46 [(5, .int ((nI 0))), (4, .int ((nI 0))), (0, .ref (kad κ 151)), (2, .int (x2)), (3, .int (x3))] dX12_layRing_44 (by decide) rfl rfl ?_
      refine imp_sub [(0, .ref (kad κ 151)), (2, .int (x2)), (3, .int (x3)), (4, .int ((nI 0))), (5, .int ((nI 0)))] [2, 3, 4, 1, 0] rfl ?_
      refine imp_f_X12_layRing_L46 C (x2) _ ?_ Rr FU (x3) ((nI 0)) ((nI 0)) h
      · intro x3_8 x4_9 h_10
        refine r_goto C 35 dX12_layRing_137 (by decide) ?_
        exact imp_sub [(0, .ref (kad κ 151)), (2, .int (x2)), (3, .int (x3_8)), (4, .int (x4_9))] [0, 1, 2, 3] rfl (ih (x3_8) (x4_9) h_10)
set_option maxHeartbeats 4000000 in
set_option maxRecDepth 100000 in
theorem imp_f_X12_layRing_L2 {κ : Kx (Int32 × CH)} (C : Cx κ cX12_layRing RX12 7 3 (40 * 3) []) (x1 : Int32) (x2 : Int32)    (Rr : Rt κ (some .int) (fun (q : Int32 × CH) (_ : Nat → Nat) => some (Value.int q.1)) (fun (q : (Int32 × CH)) => q.2)) : ∀ (n : Nat) (x3 : Int32) (h : CH), Imp κ 2 [(0, .ref (kad κ 151)), (1, .int (x1)), (2, .int (x2)), (3, .int (x3))] [] h (f_X12_layRing_L2 x1 x2 n x3 h) := by
  intro n
  induction n with
  | zero => intros; exact imp_none
  | succ n ih =>
    intro x3 h
    rw [f_X12_layRing_L2]
    refine r_iload_n C 3 3 rfl dX12_layRing_2 rfl ?_
    refine r_bipush C 5 (nI 40) (by decide) dX12_layRing_3 rfl ?_
    refine r_icmp_ge C 8 30 dX12_layRing_5 (by decide) rfl (fun c_1 => ?_) (fun c_1 => ?_)
    · refine r_aload_n C 9 0 rfl dX12_layRing_8 rfl ?_
      refine r_getR C 12 dX12_layRing_9 flX12_113 kt_151 rfl rf_151_65 rfl ?_
      refine r_iload_n C 13 3 rfl dX12_layRing_12 rfl ?_
      refine r_iload_n C 14 3 rfl dX12_layRing_13 rfl ?_
      refine r_iload_n C 15 1 rfl dX12_layRing_14 rfl ?_
      refine imp_jn (fun (j_4 : Int32 → Int32 → Option (Int32 × CH)) => ∀ (s_2 : Int32) (s_3 : Int32), Imp κ 23 [(0, .ref (kad κ 151)), (1, .int (x1)), (2, .int (x2)), (3, .int (x3))] [.int (s_2), .int (s_3), .ref (kad κ 184)] h (j_4 s_2 s_3)) ?_ ?_
      · intro s_2 s_3
        refine r_zast C 24 dX12_layRing_23 kt_184 rfl rfl (fun h_5 => ?_)
        refine r_iinc C 27 3 (nI 1) [(3, .int (x3 + (nI 1))), (0, .ref (kad κ 151)), (1, .int (x1)), (2, .int (x2))] dX12_layRing_24 rfl (by decide) (by decide) rfl rfl ?_
        refine r_goto C 2 dX12_layRing_27 (by decide) ?_
        exact imp_sub [(0, .ref (kad κ 151)), (1, .int (x1)), (2, .int (x2)), (3, .int (x3 + (nI 1)))] [1, 2, 3, 0] rfl (ih (x3 + (nI 1)) h_5)
      · intro j_4 hj_4
        refine r_icmp_ne C 18 22 dX12_layRing_15 (by decide) rfl (fun c_6 => ?_) (fun c_6 => ?_)
        · refine r_iconst C 19 (nI 1) (by decide) dX12_layRing_18 rfl ?_
          refine r_goto C 23 dX12_layRing_19 (by decide) ?_
          exact imp_sub [(0, .ref (kad κ 151)), (1, .int (x1)), (2, .int (x2)), (3, .int (x3))] [0, 1, 2, 3] rfl (hj_4 ((nI 1)) (x3))
        · refine r_iconst C 23 (nI 0) (by decide) dX12_layRing_22 rfl ?_
          exact imp_sub [(0, .ref (kad κ 151)), (1, .int (x1)), (2, .int (x2)), (3, .int (x3))] [0, 1, 2, 3] rfl (hj_4 ((nI 0)) (x3))
    · refine r_iconst C 31 (nI 1) (by decide) dX12_layRing_30 rfl ?_
      refine r_istore_n C 32 3 [(3, .int ((nI 1))), (0, .ref (kad κ 151)), (1, .int (x1)), (2, .int (x2))] dX12_layRing_31 rfl (by decide) rfl rfl ?_
      refine r_iconst C 33 (nI 1) (by decide) dX12_layRing_32 rfl ?_
      refine r_istore C 35 [(4, .int ((nI 1))), (3, .int ((nI 1))), (0, .ref (kad κ 151)), (1, .int (x1)), (2, .int (x2))] dX12_layRing_33 (by decide) rfl rfl ?_
      refine imp_sub [(0, .ref (kad κ 151)), (2, .int (x2)), (3, .int ((nI 1))), (4, .int ((nI 1)))] [2, 4, 1, 0] rfl ?_
      refine imp_f_X12_layRing_L35 C (x2) Rr FU ((nI 1)) ((nI 1)) h
set_option maxHeartbeats 4000000 in
set_option maxRecDepth 100000 in
theorem imp_f_X12_layRing {κ : Kx (Int32 × CH)} (C : Cx κ cX12_layRing RX12 7 3 (40 * 3) []) (x1 : Int32) (x2 : Int32)  (h : CH) (Rr : Rt κ (some .int) (fun (q : Int32 × CH) (_ : Nat → Nat) => some (Value.int q.1)) (fun (q : (Int32 × CH)) => q.2)) : Imp κ 0 [(0, .ref (kad κ 151)), (1, .int (x1)), (2, .int (x2))] [] h (f_X12_layRing x1 x2 h) := by
  unfold f_X12_layRing
  refine r_iconst C 1 (nI 0) (by decide) dX12_layRing_0 rfl ?_
  refine r_istore_n C 2 3 [(3, .int ((nI 0))), (0, .ref (kad κ 151)), (1, .int (x1)), (2, .int (x2))] dX12_layRing_1 rfl (by decide) rfl rfl ?_
  refine imp_sub [(0, .ref (kad κ 151)), (1, .int (x1)), (2, .int (x2)), (3, .int ((nI 0)))] [1, 2, 3, 0] rfl ?_
  refine imp_f_X12_layRing_L2 C (x1) (x2) Rr FU ((nI 0)) h
set_option maxHeartbeats 4000000 in
theorem ok_f_X12_layRing (x1 : Int32) (x2 : Int32)  (h : CH) : ∀ q, f_X12_layRing x1 x2 h = some q → MG yX12_layRing cX12_layRing 7 (some .int) [] 3 (fun ad => [.ref (ad 151), .int x1, .int x2]) h ((fun (q : Int32 × CH) (_ : Nat → Nat) => some (Value.int q.1)) q) ((fun (q : (Int32 × CH)) => q.2) q) := mg_of RX12 (by decide) rfl (fun _ => Nat.le_of_ble_eq_true rfl) (fun κ C Rr => imp_f_X12_layRing C x1 x2 h Rr)
set_option maxHeartbeats 4000000 in
set_option maxRecDepth 100000 in
theorem imp_f_X12_isFirst_L9 {κ : Kx (Int32 × CH)} (C : Cx κ cX12_isFirst RX12 4 4 (40 * 4) []) (x1 : Int32) (h : CH)    (Rr : Rt κ (some .boolean) (fun (q : Int32 × CH) (_ : Nat → Nat) => some (Value.int q.1)) (fun (q : (Int32 × CH)) => q.2)) : ∀ (n : Nat) (x3 : Int32), Imp κ 9 [(0, .ref (kad κ 151)), (1, .int (x1)), (3, .int (x3))] [] h (f_X12_isFirst_L9 x1 h n x3) := by
  intro n
  induction n with
  | zero => intros; exact imp_none
  | succ n ih =>
    intro x3
    rw [f_X12_isFirst_L9]
    refine r_iload_n C 10 2 rfl dX12_isFirst_9 rfl ?_
    refine r_iload_n C 11 1 rfl dX12_isFirst_10 rfl ?_
    refine r_icmp_ge C 14 31 dX12_isFirst_11 (by decide) rfl (fun c_3 => ?_) (fun c_3 => ?_)
    · refine r_aload_n C 15 0 rfl dX12_isFirst_14 rfl ?_
      refine r_getR C 18 dX12_isFirst_15 flX12_113 kt_151 rfl rf_151_65 rfl ?_
      refine r_iload_n C 19 2 rfl dX12_isFirst_18 rfl ?_
      refine r_zald C 20 dX12_isFirst_19 kt_184 rfl rfl (fun v_4 => ?_)
      refine r_if_eq C 23 25 dX12_isFirst_20 (by decide) rfl (fun c_5 => ?_) (fun c_5 => ?_)
      · refine r_iinc C 28 2 (nI 1) [(3, .int (x3 + (nI 1))), (0, .ref (kad κ 151)), (1, .int (x1))] dX12_isFirst_25 rfl (by decide) (by decide) rfl rfl ?_
        refine r_goto C 9 dX12_isFirst_28 (by decide) ?_
        exact imp_sub [(0, .ref (kad κ 151)), (1, .int (x1)), (3, .int (x3 + (nI 1)))] [1, 2, 0] rfl (ih (x3 + (nI 1)))
      · refine r_iconst C 24 (nI 0) (by decide) dX12_isFirst_23 rfl ?_
        exact r_zret C Rr (by decide) dX12_isFirst_24 (fun _ => rfl) rfl
    · refine r_iconst C 32 (nI 1) (by decide) dX12_isFirst_31 rfl ?_
      exact r_zret C Rr (by decide) dX12_isFirst_32 (fun _ => rfl) rfl
set_option maxHeartbeats 4000000 in
set_option maxRecDepth 100000 in
theorem imp_f_X12_isFirst {κ : Kx (Int32 × CH)} (C : Cx κ cX12_isFirst RX12 4 4 (40 * 4) []) (x1 : Int32) (x2 : Int32)  (h : CH) (Rr : Rt κ (some .boolean) (fun (q : Int32 × CH) (_ : Nat → Nat) => some (Value.int q.1)) (fun (q : (Int32 × CH)) => q.2)) : Imp κ 0 [(0, .ref (kad κ 151)), (1, .int (x1)), (2, .int (x2))] [] h (f_X12_isFirst x1 x2 h) := by
  unfold f_X12_isFirst
  refine r_aload_n C 1 0 rfl dX12_isFirst_0 rfl ?_
  refine r_iload_n C 2 1 rfl dX12_isFirst_1 rfl ?_
  refine r_iload_n C 3 2 rfl dX12_isFirst_2 rfl ?_
  refine r_cViI C 6 [] (ok_f_X12_layRing x1 x2 h) dX12_isFirst_3 lvX12_499 kt_151 rfl rfl rfl (by decide) (Nat.le_of_ble_eq_true rfl) rfl rfl (Nat.le_of_ble_eq_true rfl) rfl rfl (fun v_1 h_2 => ?_)
  refine r_pop C 7 rfl dX12_isFirst_6 rfl ?_
  refine r_iconst C 8 (nI 0) (by decide) dX12_isFirst_7 rfl ?_
  refine r_istore_n C 9 3 [(3, .int ((nI 0))), (0, .ref (kad κ 151)), (1, .int (x1)), (2, .int (x2))] dX12_isFirst_8 rfl (by decide) rfl rfl ?_
  refine imp_sub [(0, .ref (kad κ 151)), (1, .int (x1)), (3, .int ((nI 0)))] [1, 2, 0] rfl ?_
  refine imp_f_X12_isFirst_L9 C (x1) h_2 Rr FU ((nI 0))
set_option maxHeartbeats 4000000 in
theorem ok_f_X12_isFirst (x1 : Int32) (x2 : Int32)  (h : CH) : ∀ q, f_X12_isFirst x1 x2 h = some q → MG yX12_isFirst cX12_isFirst 4 (some .boolean) [] 4 (fun ad => [.ref (ad 151), .int x1, .int x2]) h ((fun (q : Int32 × CH) (_ : Nat → Nat) => some (Value.int q.1)) q) ((fun (q : (Int32 × CH)) => q.2) q) := mg_of RX12 (by decide) rfl (fun _ => Nat.le_of_ble_eq_true rfl) (fun κ C Rr => imp_f_X12_isFirst C x1 x2 h Rr)
set_option maxHeartbeats 4000000 in
set_option maxRecDepth 100000 in
theorem imp_f_X12_rings_L22 {κ : Kx (Int32 × CH)} (C : Cx κ cX12_rings RX12 8 5 (40 * 5) []) (x1 : Int32) (x2 : Int32)    (Rr : Rt κ (some .int) (fun (q : Int32 × CH) (_ : Nat → Nat) => some (Value.int q.1)) (fun (q : (Int32 × CH)) => q.2)) : ∀ (n : Nat) (x3 : Int32) (x4 : Int32) (x5 : Int32) (x6 : Int32) (h : CH), Imp κ 22 [(0, .ref (kad κ 151)), (1, .int (x1)), (2, .int (x2)), (3, .int (x3)), (4, .int (x4)), (5, .int (x5)), (6, .int (x6))] [] h (f_X12_rings_L22 x1 x2 n x3 x4 x5 x6 h) := by
  intro n
  induction n with
  | zero => intros; exact imp_none
  | succ n ih =>
    intro x3 x4 x5 x6 h
    rw [f_X12_rings_L22]
    refine r_iload C 24 6 rfl dX12_rings_22 rfl ?_
    refine r_aload_n C 25 0 rfl dX12_rings_24 rfl ?_
    refine r_getI C 28 dX12_rings_25 flX12_275 kt_151 rfl rfl ?_
    refine r_icmp_ge C 31 90 dX12_rings_28 (by decide) rfl (fun c_3 => ?_) (fun c_3 => ?_)
    · refine r_aload_n C 32 0 rfl dX12_rings_31 rfl ?_
      refine r_iload C 34 6 rfl dX12_rings_32 rfl ?_
      refine r_iload_n C 35 2 rfl dX12_rings_34 rfl ?_
      refine r_cVpI C 38 [] (ok_f_X12_counts x6 x2 h) dX12_rings_35 lvX12_487 kt_151 rfl rfl rfl (by decide) (Nat.le_of_ble_eq_true rfl) rfl rfl (Nat.le_of_ble_eq_true rfl) rfl rfl (fun v_4 => ?_)
      refine imp_jn (fun (j_9 : Int32 → Int32 → Int32 → CH → Option (Int32 × CH)) => ∀ (x3_5 : Int32) (x4_6 : Int32) (x5_7 : Int32) (h_8 : CH), Imp κ 84 [(0, .ref (kad κ 151)), (1, .int (x1)), (2, .int (x2)), (3, .int (x3_5)), (4, .int (x4_6)), (5, .int (x5_7)), (6, .int (x6))] [] h_8 (j_9 x3_5 x4_6 x5_7 h_8)) ?_ ?_
      · intro x3_5 x4_6 x5_7 h_8
        refine r_iinc C 87 6 (nI 1) [(6, .int (x6 + (nI 1))), (0, .ref (kad κ 151)), (1, .int (x1)), (2, .int (x2)), (3, .int (x3_5)), (4, .int (x4_6)), (5, .int (x5_7))] dX12_rings_84 rfl (by decide) (by decide) rfl rfl ?_
        refine r_goto C 22 dX12_rings_87 (by decide) ?_
        exact imp_sub [(0, .ref (kad κ 151)), (1, .int (x1)), (2, .int (x2)), (3, .int (x3_5)), (4, .int (x4_6)), (5, .int (x5_7)), (6, .int (x6 + (nI 1)))] [1, 2, 3, 4, 5, 6, 0] rfl (ih (x3_5) (x4_6) (x5_7) (x6 + (nI 1)) h_8)
      · intro j_9 hj_9
        refine r_if_eq C 41 84 dX12_rings_38 (by decide) rfl (fun c_10 => ?_) (fun c_10 => ?_)
        · exact imp_sub [(0, .ref (kad κ 151)), (1, .int (x1)), (2, .int (x2)), (3, .int (x3)), (4, .int (x4)), (5, .int (x5)), (6, .int (x6))] [0, 1, 2, 3, 4, 5, 6] rfl (hj_9 (x3) (x4) (x5) h)
        · refine r_aload_n C 42 0 rfl dX12_rings_41 rfl ?_
          refine r_iload C 44 6 rfl dX12_rings_42 rfl ?_
          refine r_iload_n C 45 2 rfl dX12_rings_44 rfl ?_
          refine r_cViI C 48 [] (ok_f_X12_isFirst x6 x2 h) dX12_rings_45 lvX12_502 kt_151 rfl rfl rfl (by decide) (Nat.le_of_ble_eq_true rfl) rfl rfl (Nat.le_of_ble_eq_true rfl) rfl rfl (fun v_11 h_12 => ?_)
          refine r_if_ne C 51 54 dX12_rings_48 (by decide) rfl (fun c_13 => ?_) (fun c_13 => ?_)
          · refine r_goto C 84 dX12_rings_51 (by decide) ?_
            exact imp_sub [(0, .ref (kad κ 151)), (1, .int (x1)), (2, .int (x2)), (3, .int (x3)), (4, .int (x4)), (5, .int (x5)), (6, .int (x6))] [0, 1, 2, 3, 4, 5, 6] rfl (hj_9 (x3) (x4) (x5) h_12)
          · refine r_iinc C 57 3 (nI 1) [(3, .int (x3 + (nI 1))), (0, .ref (kad κ 151)), (1, .int (x1)), (2, .int (x2)), (4, .int (x4)), (5, .int (x5)), (6, .int (x6))] dX12_rings_54 rfl (by decide) (by decide) rfl rfl ?_
            refine r_aload_n C 58 1 rfl dX12_rings_57 rfl ?_
            refine r_iload C 60 6 rfl dX12_rings_58 rfl ?_
            refine r_iload_n C 61 3 rfl dX12_rings_60 rfl ?_
            refine r_cViI C 64 [] (ok_f_X12_layRing x6 x2 h_12) dX12_rings_61 lvX12_499 kt_151 rfl rfl rfl (by decide) (Nat.le_of_ble_eq_true rfl) rfl rfl (Nat.le_of_ble_eq_true rfl) rfl rfl (fun v_14 h_15 => ?_)
            refine r_istore C 66 [(7, .int (v_14)), (3, .int (x3 + (nI 1))), (0, .ref (kad κ 151)), (1, .int (x1)), (2, .int (x2)), (4, .int (x4)), (5, .int (x5)), (6, .int (x6))] dX12_rings_64 (by decide) rfl rfl ?_
            refine r_iload C 68 0 rfl dX12_rings_66 rfl ?_
            refine r_iload C 70 5 rfl dX12_rings_68 rfl ?_
            refine r_icmp_gt C 73 76 dX12_rings_70 (by decide) rfl (fun c_16 => ?_) (fun c_16 => ?_)
            · refine r_iload C 78 0 rfl dX12_rings_76 rfl ?_
              refine r_istore C 80 [(4, .int (v_14)), (7, .int (v_14)), (3, .int (x3 + (nI 1))), (0, .ref (kad κ 151)), (1, .int (x1)), (2, .int (x2)), (5, .int (x5)), (6, .int (x6))] dX12_rings_78 (by decide) rfl rfl ?_
              refine r_iload C 82 7 rfl dX12_rings_80 rfl ?_
              refine r_istore C 84 [(5, .int (x6)), (4, .int (v_14)), (7, .int (v_14)), (3, .int (x3 + (nI 1))), (0, .ref (kad κ 151)), (1, .int (x1)), (2, .int (x2)), (6, .int (x6))] dX12_rings_82 (by decide) rfl rfl ?_
              exact imp_sub [(0, .ref (kad κ 151)), (1, .int (x1)), (2, .int (x2)), (3, .int (x3 + (nI 1))), (4, .int (v_14)), (5, .int (x6)), (6, .int (x6))] [4, 5, 6, 3, 1, 0, 7] rfl (hj_9 (x3 + (nI 1)) (v_14) (x6) h_15)
            · refine r_goto C 84 dX12_rings_73 (by decide) ?_
              exact imp_sub [(0, .ref (kad κ 151)), (1, .int (x1)), (2, .int (x2)), (3, .int (x3 + (nI 1))), (4, .int (x4)), (5, .int (x5)), (6, .int (x6))] [2, 3, 4, 1, 5, 6, 7] rfl (hj_9 (x3 + (nI 1)) (x4) (x5) h_15)
    · refine r_iload_n C 91 1 rfl dX12_rings_90 rfl ?_
      refine r_if_ne C 94 98 dX12_rings_91 (by decide) rfl (fun c_17 => ?_) (fun c_17 => ?_)
      · refine r_iload_n C 95 3 rfl dX12_rings_94 rfl ?_
        refine r_goto C 110 dX12_rings_95 (by decide) ?_
        exact r_iret C Rr dX12_rings_110 (fun _ => rfl) rfl
      · refine r_iload_n C 99 1 rfl dX12_rings_98 rfl ?_
        refine r_iconst C 100 (nI 1) (by decide) dX12_rings_99 rfl ?_
        refine r_icmp_ne C 103 108 dX12_rings_100 (by decide) rfl (fun c_18 => ?_) (fun c_18 => ?_)
        · refine r_iload C 105 4 rfl dX12_rings_103 rfl ?_
          refine r_goto C 110 dX12_rings_105 (by decide) ?_
          exact r_iret C Rr dX12_rings_110 (fun _ => rfl) rfl
        · refine r_iload C 110 5 rfl dX12_rings_108 rfl ?_
          exact r_iret C Rr dX12_rings_110 (fun _ => rfl) rfl
set_option maxHeartbeats 4000000 in
set_option maxRecDepth 100000 in
theorem imp_f_X12_rings {κ : Kx (Int32 × CH)} (C : Cx κ cX12_rings RX12 8 5 (40 * 5) []) (x1 : Int32) (x2 : Int32)  (h : CH) (Rr : Rt κ (some .int) (fun (q : Int32 × CH) (_ : Nat → Nat) => some (Value.int q.1)) (fun (q : (Int32 × CH)) => q.2)) : Imp κ 0 [(0, .ref (kad κ 151)), (1, .int (x1)), (2, .int (x2))] [] h (f_X12_rings x1 x2 h) := by
  unfold f_X12_rings
  refine r_iload_n C 1 1 rfl dX12_rings_0 rfl ?_
  refine r_iconst C 2 (nI 0) (by decide) dX12_rings_1 rfl ?_
  refine r_iconst C 3 (nI 2) (by decide) dX12_rings_2 rfl ?_
  refine r_cSpI C 6 [] (ok_f_X12_isIn x1 ((nI 0)) ((nI 2)) h) dX12_rings_3 lsX12_402 rfl (by decide) (Nat.le_of_ble_eq_true rfl) rfl rfl (Nat.le_of_ble_eq_true rfl) rfl rfl (fun v_1 => ?_)
  refine r_if_ne C 9 11 dX12_rings_6 (by decide) rfl (fun c_2 => ?_) (fun c_2 => ?_)
  · refine r_iconst C 10 (-1) (by decide) dX12_rings_9 rfl ?_
    exact r_iret C Rr dX12_rings_10 (fun _ => rfl) rfl
  · refine r_iconst C 12 (nI 0) (by decide) dX12_rings_11 rfl ?_
    refine r_istore_n C 13 3 [(3, .int ((nI 0))), (0, .ref (kad κ 151)), (1, .int (x1)), (2, .int (x2))] dX12_rings_12 rfl (by decide) rfl rfl ?_
    refine r_iconst C 14 (nI 0) (by decide) dX12_rings_13 rfl ?_
    refine r_istore C 16 [(4, .int ((nI 0))), (3, .int ((nI 0))), (0, .ref (kad κ 151)), (1, .int (x1)), (2, .int (x2))] dX12_rings_14 (by decide) rfl rfl ?_
    refine r_iconst C 17 (-1) (by decide) dX12_rings_16 rfl ?_
    refine r_istore C 19 [(5, .int ((-1))), (4, .int ((nI 0))), (3, .int ((nI 0))), (0, .ref (kad κ 151)), (1, .int (x1)), (2, .int (x2))] dX12_rings_17 (by decide) rfl rfl ?_
    refine r_iconst C 20 (nI 0) (by decide) dX12_rings_19 rfl ?_
    refine r_istore C 22 [(6, .int ((nI 0))), (5, .int ((-1))), (4, .int ((nI 0))), (3, .int ((nI 0))), (0, .ref (kad κ 151)), (1, .int (x1)), (2, .int (x2))] dX12_rings_20 (by decide) rfl rfl ?_
    refine imp_sub [(0, .ref (kad κ 151)), (1, .int (x1)), (2, .int (x2)), (3, .int ((nI 0))), (4, .int ((nI 0))), (5, .int ((-1))), (6, .int ((nI 0)))] [4, 5, 6, 3, 2, 1, 0] rfl ?_
    refine imp_f_X12_rings_L22 C (x1) (x2) Rr FU ((nI 0)) ((nI 0)) ((-1)) ((nI 0)) h
set_option maxHeartbeats 4000000 in
theorem ok_f_X12_rings (x1 : Int32) (x2 : Int32)  (h : CH) : ∀ q, f_X12_rings x1 x2 h = some q → MG yX12_rings cX12_rings 8 (some .int) [] 5 (fun ad => [.ref (ad 151), .int x1, .int x2]) h ((fun (q : Int32 × CH) (_ : Nat → Nat) => some (Value.int q.1)) q) ((fun (q : (Int32 × CH)) => q.2) q) := mg_of RX12 (by decide) rfl (fun _ => Nat.le_of_ble_eq_true rfl) (fun κ C Rr => imp_f_X12_rings C x1 x2 h Rr)
set_option maxHeartbeats 4000000 in
set_option maxRecDepth 100000 in
theorem imp_f_X12_ring {κ : Kx (Int32 × CH)} (C : Cx κ cX12_ring RX12 3 4 (40 * 4) []) (x1 : Int32) (x2 : Int32)  (h : CH) (Rr : Rt κ (some .int) (fun (q : Int32 × CH) (_ : Nat → Nat) => some (Value.int q.1)) (fun (q : (Int32 × CH)) => q.2)) : Imp κ 0 [(0, .ref (kad κ 151)), (1, .int (x1)), (2, .int (x2))] [] h (f_X12_ring x1 x2 h) := by
  unfold f_X12_ring
  refine r_aload_n C 1 0 rfl dX12_ring_0 rfl ?_
  refine r_iload_n C 2 1 rfl dX12_ring_1 rfl ?_
  refine r_iload_n C 3 2 rfl dX12_ring_2 rfl ?_
  refine r_cVpI C 6 [] (ok_f_X12_counts x1 x2 h) dX12_ring_3 lvX12_487 kt_151 rfl rfl rfl (by decide) (Nat.le_of_ble_eq_true rfl) rfl rfl (Nat.le_of_ble_eq_true rfl) rfl rfl (fun v_1 => ?_)
  refine r_if_eq C 9 18 dX12_ring_6 (by decide) rfl (fun c_2 => ?_) (fun c_2 => ?_)
  · refine r_iconst C 19 (-1) (by decide) dX12_ring_18 rfl ?_
    exact r_iret C Rr dX12_ring_19 (fun _ => rfl) rfl
  · refine r_aload_n C 10 0 rfl dX12_ring_9 rfl ?_
    refine r_iload_n C 11 1 rfl dX12_ring_10 rfl ?_
    refine r_iload_n C 12 2 rfl dX12_ring_11 rfl ?_
    refine r_cViI C 15 [] (ok_f_X12_layRing x1 x2 h) dX12_ring_12 lvX12_499 kt_151 rfl rfl rfl (by decide) (Nat.le_of_ble_eq_true rfl) rfl rfl (Nat.le_of_ble_eq_true rfl) rfl rfl (fun v_3 h_4 => ?_)
    refine r_goto C 19 dX12_ring_15 (by decide) ?_
    exact r_iret C Rr dX12_ring_19 (fun _ => rfl) rfl
set_option maxHeartbeats 4000000 in
theorem ok_f_X12_ring (x1 : Int32) (x2 : Int32)  (h : CH) : ∀ q, f_X12_ring x1 x2 h = some q → MG yX12_ring cX12_ring 3 (some .int) [] 4 (fun ad => [.ref (ad 151), .int x1, .int x2]) h ((fun (q : Int32 × CH) (_ : Nat → Nat) => some (Value.int q.1)) q) ((fun (q : (Int32 × CH)) => q.2) q) := mg_of RX12 (by decide) rfl (fun _ => Nat.le_of_ble_eq_true rfl) (fun κ C Rr => imp_f_X12_ring C x1 x2 h Rr)
set_option maxHeartbeats 4000000 in
set_option maxRecDepth 100000 in
theorem imp_f_X12_between_L39 {κ : Kx Int32} (C : Cx κ cX12_between RX12 7 3 (40 * 3) []) (x2 : Int32) (x3 : Int32) (x4 : Int32) (h : CH)  (k88 : Int32 → Option Int32) (hk88 : ∀ (x5_6 : Int32), Imp κ 88 [(0, .ref (kad κ 151)), (2, .int (x2)), (3, .int (x3)), (4, .int (x4)), (5, .int (x5_6))] [] h (k88 x5_6)) (Rr : Rt κ (some .int) (fun (x : Int32) (_ : Nat → Nat) => some (Value.int x)) (fun (_ : Int32) => h)) : ∀ (n : Nat) (x5 : Int32) (x6 : Int32), Imp κ 39 [(0, .ref (kad κ 151)), (2, .int (x2)), (3, .int (x3)), (4, .int (x4)), (5, .int (x5)), (6, .int (x6))] [] h (f_X12_between_L39 x2 x3 x4 h k88 n x5 x6) := by
  intro n
  induction n with
  | zero => intros; exact imp_none
  | succ n ih =>
    intro x5 x6
    rw [f_X12_between_L39]
    refine r_iload C 41 5 rfl dX12_between_39 rfl ?_
    refine r_aload_n C 42 0 rfl dX12_between_41 rfl ?_
    refine r_cVpI C 45 [.int (x6)] (ok_f_X12_many h) dX12_between_42 lvX12_399 kt_151 rfl rfl rfl (by decide) (Nat.le_of_ble_eq_true rfl) rfl rfl (Nat.le_of_ble_eq_true rfl) rfl rfl (fun v_7 => ?_)
    refine r_icmp_ge C 48 88 dX12_between_45 (by decide) rfl (fun c_8 => ?_) (fun c_8 => ?_)
    · refine r_iload C 50 4 rfl dX12_between_48 rfl ?_
      refine r_iload_n C 51 2 rfl dX12_between_50 rfl ?_
      refine r_iload C 53 5 rfl dX12_between_51 rfl ?_
      refine r_ishr C 54 dX12_between_53 rfl ?_
      refine r_iconst C 55 (nI 1) (by decide) dX12_between_54 rfl ?_
      refine r_iand C 56 dX12_between_55 rfl ?_
      refine r_iconst C 57 (nI 1) (by decide) dX12_between_56 rfl ?_
      refine imp_jn (fun (j_11 : Int32 → Int32 → Option Int32) => ∀ (s_9 : Int32) (s_10 : Int32), Imp κ 79 [(0, .ref (kad κ 151)), (2, .int (x2)), (3, .int (x3)), (4, .int (x4)), (6, .int (x6))] [.int (s_9), .int (s_10)] h (j_11 s_9 s_10)) ?_ ?_
      · intro s_9 s_10
        refine r_ior C 80 dX12_between_79 rfl ?_
        refine r_istore C 82 [(5, .int ((s_10) ||| (s_9))), (0, .ref (kad κ 151)), (2, .int (x2)), (3, .int (x3)), (4, .int (x4)), (6, .int (x6))] dX12_between_80 (by decide) rfl rfl ?_
        refine r_iinc C 85 5 (nI 1) [(6, .int (x6 + (nI 1))), (5, .int ((s_10) ||| (s_9))), (0, .ref (kad κ 151)), (2, .int (x2)), (3, .int (x3)), (4, .int (x4))] dX12_between_82 rfl (by decide) (by decide) rfl rfl ?_
        refine r_goto C 39 dX12_between_85 (by decide) ?_
        exact imp_sub [(0, .ref (kad κ 151)), (2, .int (x2)), (3, .int (x3)), (4, .int (x4)), (5, .int ((s_10) ||| (s_9))), (6, .int (x6 + (nI 1)))] [2, 3, 4, 5, 1, 0] rfl (ih ((s_10) ||| (s_9)) (x6 + (nI 1)))
      · intro j_11 hj_11
        refine r_icmp_ne C 60 78 dX12_between_57 (by decide) rfl (fun c_12 => ?_) (fun c_12 => ?_)
        · refine r_aload_n C 61 0 rfl dX12_between_60 rfl ?_
          refine r_getR C 64 dX12_between_61 flX12_42 kt_151 rfl rf_151_19 rfl ?_
          refine r_bipush C 66 (nI 16) (by decide) dX12_between_64 rfl ?_
          refine r_aload_n C 67 0 rfl dX12_between_66 rfl ?_
          refine r_getI C 70 dX12_between_67 flX12_269 kt_151 rfl rfl ?_
          refine r_imul C 71 dX12_between_70 rfl ?_
          refine r_iload C 73 5 rfl dX12_between_71 rfl ?_
          refine r_iadd C 74 dX12_between_73 rfl ?_
          refine r_iald C 75 dX12_between_74 kt_161 rfl rfl (fun v_13 => ?_)
          refine r_goto C 79 dX12_between_75 (by decide) ?_
          exact imp_sub [(0, .ref (kad κ 151)), (2, .int (x2)), (3, .int (x3)), (4, .int (x4)), (6, .int (x6))] [0, 1, 2, 3, 5] rfl (hj_11 (v_13) (x5))
        · refine r_iconst C 79 (nI 0) (by decide) dX12_between_78 rfl ?_
          exact imp_sub [(0, .ref (kad κ 151)), (2, .int (x2)), (3, .int (x3)), (4, .int (x4)), (6, .int (x6))] [0, 1, 2, 3, 5] rfl (hj_11 ((nI 0)) (x5))
    · exact imp_sub [(0, .ref (kad κ 151)), (2, .int (x2)), (3, .int (x3)), (4, .int (x4)), (5, .int (x5))] [0, 1, 2, 3, 4] rfl (hk88 (x5))
set_option maxHeartbeats 4000000 in
set_option maxRecDepth 100000 in
theorem imp_f_X12_between_L25 {κ : Kx Int32} (C : Cx κ cX12_between RX12 7 3 (40 * 3) []) (x2 : Int32) (h : CH)    (Rr : Rt κ (some .int) (fun (x : Int32) (_ : Nat → Nat) => some (Value.int x)) (fun (_ : Int32) => h)) : ∀ (n : Nat) (x3 : Int32) (x4 : Int32), Imp κ 25 [(0, .ref (kad κ 151)), (2, .int (x2)), (3, .int (x3)), (4, .int (x4))] [] h (f_X12_between_L25 x2 h n x3 x4) := by
  intro n
  induction n with
  | zero => intros; exact imp_none
  | succ n ih =>
    intro x3 x4
    rw [f_X12_between_L25]
    refine r_iload_n C 26 2 rfl dX12_between_25 rfl ?_
    refine r_iload_n C 27 1 rfl dX12_between_26 rfl ?_
    refine r_ishr C 28 dX12_between_27 rfl ?_
    refine r_iconst C 29 (nI 1) (by decide) dX12_between_28 rfl ?_
    refine r_iand C 30 dX12_between_29 rfl ?_
    refine r_if_ne C 33 105 dX12_between_30 (by decide) rfl (fun c_5 => ?_) (fun c_5 => ?_)
    · refine r_iload_n C 34 2 rfl dX12_between_33 rfl ?_
      refine r_istore C 36 [(5, .int (x3)), (0, .ref (kad κ 151)), (2, .int (x2)), (3, .int (x3)), (4, .int (x4))] dX12_between_34 (by decide) rfl rfl ?_
      refine r_iconst C 37 (nI 0) (by decide) dX12_between_36 rfl ?_
      refine r_istore C 39 [(6, .int ((nI 0))), (5, .int (x3)), (0, .ref (kad κ 151)), (2, .int (x2)), (3, .int (x3)), (4, .int (x4))] dX12_between_37 (by decide) rfl rfl ?_
      refine imp_sub [(0, .ref (kad κ 151)), (2, .int (x2)), (3, .int (x3)), (4, .int (x4)), (5, .int (x3)), (6, .int ((nI 0)))] [2, 3, 4, 5, 1, 0] rfl ?_
      refine imp_f_X12_between_L39 C (x2) (x3) (x4) h _ ?_ Rr FU (x3) ((nI 0))
      · intro x5_6
        refine r_iload C 90 4 rfl dX12_between_88 rfl ?_
        refine r_iload_n C 91 2 rfl dX12_between_90 rfl ?_
        refine r_icmp_ne C 94 96 dX12_between_91 (by decide) rfl (fun c_14 => ?_) (fun c_14 => ?_)
        · refine r_iconst C 95 (-1) (by decide) dX12_between_94 rfl ?_
          exact r_iret C Rr dX12_between_95 (fun _ => rfl) rfl
        · refine r_iload C 98 4 rfl dX12_between_96 rfl ?_
          refine r_istore_n C 99 3 [(3, .int (x5_6)), (0, .ref (kad κ 151)), (2, .int (x2)), (4, .int (x4)), (5, .int (x5_6))] dX12_between_98 rfl (by decide) rfl rfl ?_
          refine r_iinc C 102 3 (nI 1) [(4, .int (x4 + (nI 1))), (3, .int (x5_6)), (0, .ref (kad κ 151)), (2, .int (x2)), (5, .int (x5_6))] dX12_between_99 rfl (by decide) (by decide) rfl rfl ?_
          refine r_goto C 25 dX12_between_102 (by decide) ?_
          exact imp_sub [(0, .ref (kad κ 151)), (2, .int (x2)), (3, .int (x5_6)), (4, .int (x4 + (nI 1)))] [2, 3, 1, 0] rfl (ih (x5_6) (x4 + (nI 1)))
    · refine r_iload C 107 3 rfl dX12_between_105 rfl ?_
      exact r_iret C Rr dX12_between_107 (fun _ => rfl) rfl
set_option maxHeartbeats 4000000 in
set_option maxRecDepth 100000 in
theorem imp_f_X12_between {κ : Kx Int32} (C : Cx κ cX12_between RX12 7 3 (40 * 3) []) (x1 : Int32) (x2 : Int32)  (h : CH) (Rr : Rt κ (some .int) (fun (x : Int32) (_ : Nat → Nat) => some (Value.int x)) (fun (_ : Int32) => h)) : Imp κ 0 [(0, .ref (kad κ 151)), (1, .int (x1)), (2, .int (x2))] [] h (f_X12_between x1 x2 h) := by
  unfold f_X12_between
  refine r_aload_n C 1 0 rfl dX12_between_0 rfl ?_
  refine r_iload_n C 2 1 rfl dX12_between_1 rfl ?_
  refine r_cVpI C 5 [] (ok_f_X12_isFace x1 h) dX12_between_2 lvX12_424 kt_151 rfl rfl rfl (by decide) (Nat.le_of_ble_eq_true rfl) rfl rfl (Nat.le_of_ble_eq_true rfl) rfl rfl (fun v_1 => ?_)
  refine r_if_eq C 8 16 dX12_between_5 (by decide) rfl (fun c_2 => ?_) (fun c_2 => ?_)
  · refine r_iconst C 17 (-1) (by decide) dX12_between_16 rfl ?_
    exact r_iret C Rr dX12_between_17 (fun _ => rfl) rfl
  · refine r_aload_n C 9 0 rfl dX12_between_8 rfl ?_
    refine r_iload_n C 10 2 rfl dX12_between_9 rfl ?_
    refine r_cVpI C 13 [] (ok_f_X12_isFace x2 h) dX12_between_10 lvX12_424 kt_151 rfl rfl rfl (by decide) (Nat.le_of_ble_eq_true rfl) rfl rfl (Nat.le_of_ble_eq_true rfl) rfl rfl (fun v_3 => ?_)
    refine r_if_ne C 16 18 dX12_between_13 (by decide) rfl (fun c_4 => ?_) (fun c_4 => ?_)
    · refine r_iconst C 17 (-1) (by decide) dX12_between_16 rfl ?_
      exact r_iret C Rr dX12_between_17 (fun _ => rfl) rfl
    · refine r_iconst C 19 (nI 1) (by decide) dX12_between_18 rfl ?_
      refine r_iload_n C 20 1 rfl dX12_between_19 rfl ?_
      refine r_ishl C 21 dX12_between_20 rfl ?_
      refine r_istore_n C 22 3 [(3, .int (((nI 1)) <<< ((x1) &&& 31))), (0, .ref (kad κ 151)), (1, .int (x1)), (2, .int (x2))] dX12_between_21 rfl (by decide) rfl rfl ?_
      refine r_iconst C 23 (nI 0) (by decide) dX12_between_22 rfl ?_
      refine r_istore C 25 [(4, .int ((nI 0))), (3, .int (((nI 1)) <<< ((x1) &&& 31))), (0, .ref (kad κ 151)), (1, .int (x1)), (2, .int (x2))] dX12_between_23 (by decide) rfl rfl ?_
      refine imp_sub [(0, .ref (kad κ 151)), (2, .int (x2)), (3, .int (((nI 1)) <<< ((x1) &&& 31))), (4, .int ((nI 0)))] [2, 4, 1, 0] rfl ?_
      refine imp_f_X12_between_L25 C (x2) h Rr FU (((nI 1)) <<< ((x1) &&& 31)) ((nI 0))
set_option maxHeartbeats 4000000 in
theorem ok_f_X12_between (x1 : Int32) (x2 : Int32)  (h : CH) : ∀ q, f_X12_between x1 x2 h = some q → MG yX12_between cX12_between 7 (some .int) [] 3 (fun ad => [.ref (ad 151), .int x1, .int x2]) h ((fun (x : Int32) (_ : Nat → Nat) => some (Value.int x)) q) ((fun (_ : Int32) => h) q) := mg_of RX12 (by decide) rfl (fun _ => Nat.le_of_ble_eq_true rfl) (fun κ C Rr => imp_f_X12_between C x1 x2 h Rr)
set_option maxHeartbeats 4000000 in
set_option maxRecDepth 100000 in
theorem imp_f_X12_isShown {κ : Kx (Int32 × CH)} (C : Cx κ cX12_isShown RX12 3 6 (40 * 6) []) (x1 : Int32) (x2 : Int32)  (h : CH) (Rr : Rt κ (some .boolean) (fun (q : Int32 × CH) (_ : Nat → Nat) => some (Value.int q.1)) (fun (q : (Int32 × CH)) => q.2)) : Imp κ 0 [(0, .ref (kad κ 151)), (1, .int (x1)), (2, .int (x2))] [] h (f_X12_isShown x1 x2 h) := by
  unfold f_X12_isShown
  refine r_aload_n C 1 0 rfl dX12_isShown_0 rfl ?_
  refine r_iload_n C 2 1 rfl dX12_isShown_1 rfl ?_
  refine r_iload_n C 3 2 rfl dX12_isShown_2 rfl ?_
  refine r_cVpI C 6 [] (ok_f_X12_counts x1 x2 h) dX12_isShown_3 lvX12_487 kt_151 rfl rfl rfl (by decide) (Nat.le_of_ble_eq_true rfl) rfl rfl (Nat.le_of_ble_eq_true rfl) rfl rfl (fun v_1 => ?_)
  refine r_if_eq C 9 39 dX12_isShown_6 (by decide) rfl (fun c_2 => ?_) (fun c_2 => ?_)
  · refine r_iconst C 40 (nI 0) (by decide) dX12_isShown_39 rfl ?_
    exact r_zret C Rr (by decide) dX12_isShown_40 (fun _ => rfl) rfl
  · refine r_aload_n C 10 0 rfl dX12_isShown_9 rfl ?_
    refine r_getR C 13 dX12_isShown_10 flX12_95 kt_151 rfl rf_151_54 rfl ?_
    refine r_iload_n C 14 1 rfl dX12_isShown_13 rfl ?_
    refine r_iald C 15 dX12_isShown_14 kt_178 rfl rfl (fun v_3 => ?_)
    refine r_aload_n C 16 0 rfl dX12_isShown_15 rfl ?_
    refine r_getR C 19 dX12_isShown_16 flX12_98 kt_151 rfl rf_151_55 rfl ?_
    refine r_iload_n C 20 1 rfl dX12_isShown_19 rfl ?_
    refine r_iald C 21 dX12_isShown_20 kt_179 rfl rfl (fun v_4 => ?_)
    refine r_icmp_eq C 24 39 dX12_isShown_21 (by decide) rfl (fun c_5 => ?_) (fun c_5 => ?_)
    · refine r_iconst C 40 (nI 0) (by decide) dX12_isShown_39 rfl ?_
      exact r_zret C Rr (by decide) dX12_isShown_40 (fun _ => rfl) rfl
    · refine r_aload_n C 25 0 rfl dX12_isShown_24 rfl ?_
      refine r_getR C 28 dX12_isShown_25 flX12_101 kt_151 rfl rf_151_56 rfl ?_
      refine r_iload_n C 29 1 rfl dX12_isShown_28 rfl ?_
      refine r_iald C 30 dX12_isShown_29 kt_180 rfl rfl (fun v_6 => ?_)
      refine r_iconst C 31 (nI 1) (by decide) dX12_isShown_30 rfl ?_
      refine r_bipush C 33 (nI 9) (by decide) dX12_isShown_31 rfl ?_
      refine r_cSpI C 36 [] (ok_f_X12_isIn v_6 ((nI 1)) ((nI 9)) h) dX12_isShown_33 lsX12_402 rfl (by decide) (Nat.le_of_ble_eq_true rfl) rfl rfl (Nat.le_of_ble_eq_true rfl) rfl rfl (fun v_7 => ?_)
      refine r_if_ne C 39 41 dX12_isShown_36 (by decide) rfl (fun c_8 => ?_) (fun c_8 => ?_)
      · refine r_iconst C 40 (nI 0) (by decide) dX12_isShown_39 rfl ?_
        exact r_zret C Rr (by decide) dX12_isShown_40 (fun _ => rfl) rfl
      · refine r_aload_n C 42 0 rfl dX12_isShown_41 rfl ?_
        refine r_iload_n C 43 1 rfl dX12_isShown_42 rfl ?_
        refine r_cViV C 46 [] (ok_f_X12_layPaper x1 h) dX12_isShown_43 lvX12_471 kt_151 rfl rfl rfl (by decide) (Nat.le_of_ble_eq_true rfl) rfl rfl (Nat.le_of_ble_eq_true rfl) rfl rfl (fun _ h_9 => ?_)
        refine r_aload_n C 47 0 rfl dX12_isShown_46 rfl ?_
        refine r_cViI C 50 [] (ok_f_X12_signsOf h_9) dX12_isShown_47 lvX12_452 kt_151 rfl rfl rfl (by decide) (Nat.le_of_ble_eq_true rfl) rfl rfl (Nat.le_of_ble_eq_true rfl) rfl rfl (fun v_10 h_11 => ?_)
        refine r_if_eq C 53 57 dX12_isShown_50 (by decide) rfl (fun c_12 => ?_) (fun c_12 => ?_)
        · refine r_iconst C 58 (nI 0) (by decide) dX12_isShown_57 rfl ?_
          exact r_zret C Rr (by decide) dX12_isShown_58 (fun _ => rfl) rfl
        · refine r_iconst C 54 (nI 1) (by decide) dX12_isShown_53 rfl ?_
          refine r_goto C 58 dX12_isShown_54 (by decide) ?_
          exact r_zret C Rr (by decide) dX12_isShown_58 (fun _ => rfl) rfl
set_option maxHeartbeats 4000000 in
theorem ok_f_X12_isShown (x1 : Int32) (x2 : Int32)  (h : CH) : ∀ q, f_X12_isShown x1 x2 h = some q → MG yX12_isShown cX12_isShown 3 (some .boolean) [] 6 (fun ad => [.ref (ad 151), .int x1, .int x2]) h ((fun (q : Int32 × CH) (_ : Nat → Nat) => some (Value.int q.1)) q) ((fun (q : (Int32 × CH)) => q.2) q) := mg_of RX12 (by decide) rfl (fun _ => Nat.le_of_ble_eq_true rfl) (fun κ C Rr => imp_f_X12_isShown C x1 x2 h Rr)
