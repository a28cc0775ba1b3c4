/-! the methods do what the functions say, by program -/
set_option maxHeartbeats 4000000 in
set_option maxRecDepth 100000 in
theorem imp_f_X3_heldBy_L5 {κ : Kx Int32} (C : Cx κ cX3_heldBy RX3 5 4 (40 * 4) []) (x1 : Int32) (x2 : Int32) (h : CH)    (Rr : Rt κ (some .int) (fun (x : Int32) (_ : Nat → Nat) => some (Value.int x)) (fun (_ : Int32) => h)) : ∀ (n : Nat) (x3 : Int32) (x4 : Int32), Imp κ 5 [(0, .ref (kad κ 117)), (1, .int (x1)), (2, .int (x2)), (3, .int (x3)), (4, .int (x4))] [] h (f_X3_heldBy_L5 x1 x2 h n x3 x4) := by
  intro n
  induction n with
  | zero => intros; exact imp_none
  | succ n ih =>
    intro x3 x4
    rw [f_X3_heldBy_L5]
    refine r_iload C 7 4 rfl dX3_heldBy_5 rfl ?_
    refine r_aload_n C 8 0 rfl dX3_heldBy_7 rfl ?_
    refine r_getR C 11 dX3_heldBy_8 flX3_21 kt_117 rfl rf_117_0 rfl ?_
    refine r_getI C 14 dX3_heldBy_11 flX3_40 kt_7 rfl rfl ?_
    refine r_icmp_ge C 17 59 dX3_heldBy_14 (by decide) rfl (fun c_1 => ?_) (fun c_1 => ?_)
    · refine r_iload_n C 18 2 rfl dX3_heldBy_17 rfl ?_
      refine r_iconst C 19 (-1) (by decide) dX3_heldBy_18 rfl ?_
      refine imp_jn (fun (j_3 : Int32 → Option Int32) => ∀ (x3_2 : Int32), Imp κ 53 [(0, .ref (kad κ 117)), (1, .int (x1)), (2, .int (x2)), (3, .int (x3_2)), (4, .int (x4))] [] h (j_3 x3_2)) ?_ ?_
      · intro x3_2
        refine r_iinc C 56 4 (nI 1) [(4, .int (x4 + (nI 1))), (0, .ref (kad κ 117)), (1, .int (x1)), (2, .int (x2)), (3, .int (x3_2))] dX3_heldBy_53 rfl (by decide) (by decide) rfl rfl ?_
        refine r_goto C 5 dX3_heldBy_56 (by decide) ?_
        exact imp_sub [(0, .ref (kad κ 117)), (1, .int (x1)), (2, .int (x2)), (3, .int (x3_2)), (4, .int (x4 + (nI 1)))] [1, 2, 3, 4, 0] rfl (ih (x3_2) (x4 + (nI 1)))
      · intro j_3 hj_3
        refine imp_jn (fun (j_4 : Option Int32) =>  Imp κ 35 [(0, .ref (kad κ 117)), (1, .int (x1)), (2, .int (x2)), (3, .int (x3)), (4, .int (x4))] [] h (j_4)) ?_ ?_
        · refine r_aload_n C 36 0 rfl dX3_heldBy_35 rfl ?_
          refine r_getR C 39 dX3_heldBy_36 flX3_25 kt_117 rfl rf_117_1 rfl ?_
          refine r_iload C 41 4 rfl dX3_heldBy_39 rfl ?_
          refine r_iload C 43 4 rfl dX3_heldBy_41 rfl ?_
          refine r_cVpI C 46 [] (ok_f_X1_apartFromPicture x4 x4 h) dX3_heldBy_43 lvX3_46 kt_81 rfl rfl rfl (by decide) (Nat.le_of_ble_eq_true rfl) rfl rfl (Nat.le_of_ble_eq_true rfl) rfl rfl (fun v_5 => ?_)
          refine r_iload_n C 47 1 rfl dX3_heldBy_46 rfl ?_
          refine r_icmp_le C 50 53 dX3_heldBy_47 (by decide) rfl (fun c_6 => ?_) (fun c_6 => ?_)
          · refine r_iinc C 53 3 (nI 1) [(3, .int (x3 + (nI 1))), (0, .ref (kad κ 117)), (1, .int (x1)), (2, .int (x2)), (4, .int (x4))] dX3_heldBy_50 rfl (by decide) (by decide) rfl rfl ?_
            exact imp_sub [(0, .ref (kad κ 117)), (1, .int (x1)), (2, .int (x2)), (3, .int (x3 + (nI 1))), (4, .int (x4))] [1, 2, 3, 0, 4] rfl (hj_3 (x3 + (nI 1)))
          · exact imp_sub [(0, .ref (kad κ 117)), (1, .int (x1)), (2, .int (x2)), (3, .int (x3)), (4, .int (x4))] [0, 1, 2, 3, 4] rfl (hj_3 (x3))
        · intro j_4 hj_4
          refine r_icmp_eq C 22 35 dX3_heldBy_19 (by decide) rfl (fun c_7 => ?_) (fun c_7 => ?_)
          · exact imp_sub [(0, .ref (kad κ 117)), (1, .int (x1)), (2, .int (x2)), (3, .int (x3)), (4, .int (x4))] [0, 1, 2, 3, 4] rfl (hj_4)
          · refine r_aload_n C 23 0 rfl dX3_heldBy_22 rfl ?_
            refine r_getR C 26 dX3_heldBy_23 flX3_21 kt_117 rfl rf_117_0 rfl ?_
            refine r_iload C 28 4 rfl dX3_heldBy_26 rfl ?_
            refine r_cVpI C 31 [] (ok_f_X9_kindOf_7 x4 h) dX3_heldBy_28 lvX3_51 kt_7 rfl rfl rfl (by decide) (Nat.le_of_ble_eq_true rfl) rfl rfl (Nat.le_of_ble_eq_true rfl) rfl rfl (fun v_8 => ?_)
            refine r_iload_n C 32 2 rfl dX3_heldBy_31 rfl ?_
            refine r_icmp_ne C 35 53 dX3_heldBy_32 (by decide) rfl (fun c_9 => ?_) (fun c_9 => ?_)
            · exact imp_sub [(0, .ref (kad κ 117)), (1, .int (x1)), (2, .int (x2)), (3, .int (x3)), (4, .int (x4))] [0, 1, 2, 3, 4] rfl (hj_4)
            · exact imp_sub [(0, .ref (kad κ 117)), (1, .int (x1)), (2, .int (x2)), (3, .int (x3)), (4, .int (x4))] [0, 1, 2, 3, 4] rfl (hj_3 (x3))
    · refine r_iload_n C 60 3 rfl dX3_heldBy_59 rfl ?_
      exact r_iret C Rr dX3_heldBy_60 (fun _ => rfl) rfl
set_option maxHeartbeats 4000000 in
set_option maxRecDepth 100000 in
theorem imp_f_X3_heldBy {κ : Kx Int32} (C : Cx κ cX3_heldBy RX3 5 4 (40 * 4) []) (x1 : Int32) (x2 : Int32)  (h : CH) (Rr : Rt κ (some .int) (fun (x : Int32) (_ : Nat → Nat) => some (Value.int x)) (fun (_ : Int32) => h)) : Imp κ 0 [(0, .ref (kad κ 117)), (1, .int (x1)), (2, .int (x2))] [] h (f_X3_heldBy x1 x2 h) := by
  unfold f_X3_heldBy
  refine r_iconst C 1 (nI 0) (by decide) dX3_heldBy_0 rfl ?_
  refine r_istore_n C 2 3 [(3, .int ((nI 0))), (0, .ref (kad κ 117)), (1, .int (x1)), (2, .int (x2))] dX3_heldBy_1 rfl (by decide) rfl rfl ?_
  refine r_iconst C 3 (nI 0) (by decide) dX3_heldBy_2 rfl ?_
  refine r_istore C 5 [(4, .int ((nI 0))), (3, .int ((nI 0))), (0, .ref (kad κ 117)), (1, .int (x1)), (2, .int (x2))] dX3_heldBy_3 (by decide) rfl rfl ?_
  refine imp_sub [(0, .ref (kad κ 117)), (1, .int (x1)), (2, .int (x2)), (3, .int ((nI 0))), (4, .int ((nI 0)))] [2, 3, 4, 1, 0] rfl ?_
  refine imp_f_X3_heldBy_L5 C (x1) (x2) h Rr FU ((nI 0)) ((nI 0))
set_option maxHeartbeats 4000000 in
theorem ok_f_X3_heldBy (x1 : Int32) (x2 : Int32)  (h : CH) : ∀ q, f_X3_heldBy x1 x2 h = some q → MG yX3_heldBy cX3_heldBy 5 (some .int) [] 4 (fun ad => [.ref (ad 117), .int x1, .int x2]) h ((fun (x : Int32) (_ : Nat → Nat) => some (Value.int x)) q) ((fun (_ : Int32) => h) q) := mg_of RX3 (by decide) rfl (fun _ => Nat.le_of_ble_eq_true rfl) (fun κ C Rr => imp_f_X3_heldBy C x1 x2 h Rr)
set_option maxHeartbeats 4000000 in
set_option maxRecDepth 100000 in
theorem imp_f_X3_costOf_L3 {κ : Kx (Int32 × CH)} (C : Cx κ cX3_costOf RX3 5 6 (40 * 6) []) (x1 : Int32) (x2 : Int32) (x3 : Int32)    (Rr : Rt κ (some .int) (fun (q : Int32 × CH) (_ : Nat → Nat) => some (Value.int q.1)) (fun (q : (Int32 × CH)) => q.2)) : ∀ (n : Nat) (x4 : Int32) (h : CH), Imp κ 3 [(0, .ref (kad κ 117)), (1, .int (x1)), (2, .int (x2)), (3, .int (x3)), (4, .int (x4))] [] h (f_X3_costOf_L3 x1 x2 x3 n x4 h) := by
  intro n
  induction n with
  | zero => intros; exact imp_none
  | succ n ih =>
    intro x4 h
    rw [f_X3_costOf_L3]
    refine r_iload C 5 4 rfl dX3_costOf_3 rfl ?_
    refine r_iconst C 6 (nI 4) (by decide) dX3_costOf_5 rfl ?_
    refine r_icmp_ge C 9 23 dX3_costOf_6 (by decide) rfl (fun c_1 => ?_) (fun c_1 => ?_)
    · refine r_aload_n C 10 0 rfl dX3_costOf_9 rfl ?_
      refine r_getR C 13 dX3_costOf_10 flX3_9 kt_117 rfl rf_117_2 rfl ?_
      refine r_iload C 15 4 rfl dX3_costOf_13 rfl ?_
      refine r_iload_n C 16 1 rfl dX3_costOf_15 rfl ?_
      refine r_iast C 17 dX3_costOf_16 kt_118 rfl rfl (fun h_2 => ?_)
      refine r_iinc C 20 4 (nI 1) [(4, .int (x4 + (nI 1))), (0, .ref (kad κ 117)), (1, .int (x1)), (2, .int (x2)), (3, .int (x3))] dX3_costOf_17 rfl (by decide) (by decide) rfl rfl ?_
      refine r_goto C 3 dX3_costOf_20 (by decide) ?_
      exact imp_sub [(0, .ref (kad κ 117)), (1, .int (x1)), (2, .int (x2)), (3, .int (x3)), (4, .int (x4 + (nI 1)))] [1, 2, 3, 4, 0] rfl (ih (x4 + (nI 1)) h_2)
    · refine r_iload_n C 24 2 rfl dX3_costOf_23 rfl ?_
      refine r_aload_n C 25 0 rfl dX3_costOf_24 rfl ?_
      refine r_cVpI C 28 [.int (x2)] (ok_f_X3_falseByBars h) dX3_costOf_25 lvX3_29 kt_117 rfl rfl rfl (by decide) (Nat.le_of_ble_eq_true rfl) rfl rfl (Nat.le_of_ble_eq_true rfl) rfl rfl (fun v_3 => ?_)
      refine r_imul C 29 dX3_costOf_28 rfl ?_
      refine r_iload_n C 30 3 rfl dX3_costOf_29 rfl ?_
      refine r_aload_n C 31 0 rfl dX3_costOf_30 rfl ?_
      refine r_iload_n C 32 1 rfl dX3_costOf_31 rfl ?_
      refine r_iconst C 33 (-1) (by decide) dX3_costOf_32 rfl ?_
      refine r_cVpI C 36 [.int (x3), .int ((x2) * (v_3))] (ok_f_X3_heldBy x1 ((-1)) h) dX3_costOf_33 lvX3_33 kt_117 rfl rfl rfl (by decide) (Nat.le_of_ble_eq_true rfl) rfl rfl (Nat.le_of_ble_eq_true rfl) rfl rfl (fun v_4 => ?_)
      refine r_imul C 37 dX3_costOf_36 rfl ?_
      refine r_iadd C 38 dX3_costOf_37 rfl ?_
      exact r_iret C Rr dX3_costOf_38 (fun _ => rfl) rfl
set_option maxHeartbeats 4000000 in
set_option maxRecDepth 100000 in
theorem imp_f_X3_costOf {κ : Kx (Int32 × CH)} (C : Cx κ cX3_costOf RX3 5 6 (40 * 6) []) (x1 : Int32) (x2 : Int32) (x3 : Int32)  (h : CH) (Rr : Rt κ (some .int) (fun (q : Int32 × CH) (_ : Nat → Nat) => some (Value.int q.1)) (fun (q : (Int32 × CH)) => q.2)) : Imp κ 0 [(0, .ref (kad κ 117)), (1, .int (x1)), (2, .int (x2)), (3, .int (x3))] [] h (f_X3_costOf x1 x2 x3 h) := by
  unfold f_X3_costOf
  refine r_iconst C 1 (nI 0) (by decide) dX3_costOf_0 rfl ?_
  refine r_istore C 3 [(4, .int ((nI 0))), (0, .ref (kad κ 117)), (1, .int (x1)), (2, .int (x2)), (3, .int (x3))] dX3_costOf_1 (by decide) rfl rfl ?_
  refine imp_sub [(0, .ref (kad κ 117)), (1, .int (x1)), (2, .int (x2)), (3, .int (x3)), (4, .int ((nI 0)))] [1, 2, 3, 4, 0] rfl ?_
  refine imp_f_X3_costOf_L3 C (x1) (x2) (x3) Rr FU ((nI 0)) h
set_option maxHeartbeats 4000000 in
theorem ok_f_X3_costOf (x1 : Int32) (x2 : Int32) (x3 : Int32)  (h : CH) : ∀ q, f_X3_costOf x1 x2 x3 h = some q → MG yX3_costOf cX3_costOf 5 (some .int) [] 6 (fun ad => [.ref (ad 117), .int x1, .int x2, .int x3]) h ((fun (q : Int32 × CH) (_ : Nat → Nat) => some (Value.int q.1)) q) ((fun (q : (Int32 × CH)) => q.2) q) := mg_of RX3 (by decide) rfl (fun _ => Nat.le_of_ble_eq_true rfl) (fun κ C Rr => imp_f_X3_costOf C x1 x2 x3 h Rr)
set_option maxHeartbeats 4000000 in
set_option maxRecDepth 100000 in
theorem imp_f_X11_cost {κ : Kx (Int32 × CH)} (C : Cx κ cX11_cost RX11 6 7 (40 * 7) []) (x1 : Int32) (x2 : Int32) (x3 : Int32) (x4 : Int32) (x5 : Int32)  (h : CH) (Rr : Rt κ (some .int) (fun (q : Int32 × CH) (_ : Nat → Nat) => some (Value.int q.1)) (fun (q : (Int32 × CH)) => q.2)) : Imp κ 0 [(0, .ref (kad κ 0)), (1, .int (x1)), (2, .int (x2)), (3, .int (x3)), (4, .int (x4)), (5, .int (x5))] [] h (f_X11_cost x1 x2 x3 x4 x5 h) := by
  unfold f_X11_cost
  refine r_iload_n C 1 1 rfl dX11_cost_0 rfl ?_
  refine r_if_lt C 4 35 dX11_cost_1 (by decide) rfl (fun c_1 => ?_) (fun c_1 => ?_)
  · refine r_iconst C 36 (-1) (by decide) dX11_cost_35 rfl ?_
    exact r_iret C Rr dX11_cost_36 (fun _ => rfl) rfl
  · refine r_iload_n C 5 1 rfl dX11_cost_4 rfl ?_
    refine r_sipush C 8 (nI 800) (by decide) dX11_cost_5 rfl ?_
    refine r_icmp_gt C 11 35 dX11_cost_8 (by decide) rfl (fun c_2 => ?_) (fun c_2 => ?_)
    · refine r_iconst C 36 (-1) (by decide) dX11_cost_35 rfl ?_
      exact r_iret C Rr dX11_cost_36 (fun _ => rfl) rfl
    · refine r_iload_n C 12 2 rfl dX11_cost_11 rfl ?_
      refine r_cSpI C 15 [] (ok_f_X11_isPrice x2 h) dX11_cost_12 lsX11_291 rfl (by decide) (Nat.le_of_ble_eq_true rfl) rfl rfl (Nat.le_of_ble_eq_true rfl) rfl rfl (fun v_3 => ?_)
      refine r_if_eq C 18 35 dX11_cost_15 (by decide) rfl (fun c_4 => ?_) (fun c_4 => ?_)
      · refine r_iconst C 36 (-1) (by decide) dX11_cost_35 rfl ?_
        exact r_iret C Rr dX11_cost_36 (fun _ => rfl) rfl
      · refine r_iload_n C 19 3 rfl dX11_cost_18 rfl ?_
        refine r_cSpI C 22 [] (ok_f_X11_isPrice x3 h) dX11_cost_19 lsX11_291 rfl (by decide) (Nat.le_of_ble_eq_true rfl) rfl rfl (Nat.le_of_ble_eq_true rfl) rfl rfl (fun v_5 => ?_)
        refine r_if_eq C 25 35 dX11_cost_22 (by decide) rfl (fun c_6 => ?_) (fun c_6 => ?_)
        · refine r_iconst C 36 (-1) (by decide) dX11_cost_35 rfl ?_
          exact r_iret C Rr dX11_cost_36 (fun _ => rfl) rfl
        · refine r_iload C 27 4 rfl dX11_cost_25 rfl ?_
          refine r_iload C 29 5 rfl dX11_cost_27 rfl ?_
          refine r_cSpI C 32 [] (ok_f_X11_isWhen x4 x5 h) dX11_cost_29 lsX11_177 rfl (by decide) (Nat.le_of_ble_eq_true rfl) rfl rfl (Nat.le_of_ble_eq_true rfl) rfl rfl (fun v_7 => ?_)
          refine r_if_ne C 35 37 dX11_cost_32 (by decide) rfl (fun c_8 => ?_) (fun c_8 => ?_)
          · refine r_iconst C 36 (-1) (by decide) dX11_cost_35 rfl ?_
            exact r_iret C Rr dX11_cost_36 (fun _ => rfl) rfl
          · refine r_aload_n C 38 0 rfl dX11_cost_37 rfl ?_
            refine r_getR C 41 dX11_cost_38 flX11_75 kt_0 rfl rf_0_12 rfl ?_
            refine r_iload C 43 4 rfl dX11_cost_41 rfl ?_
            refine r_iload C 45 5 rfl dX11_cost_43 rfl ?_
            refine r_cViV C 48 [] (ok_f_X1_open x4 x5 h) dX11_cost_45 lvX11_181 kt_81 rfl rfl rfl (by decide) (Nat.le_of_ble_eq_true rfl) rfl rfl (Nat.le_of_ble_eq_true rfl) rfl rfl (fun _ h_9 => ?_)
            refine r_aload_n C 49 0 rfl dX11_cost_48 rfl ?_
            refine r_getR C 52 dX11_cost_49 flX11_84 kt_0 rfl rf_0_13 rfl ?_
            refine r_iload_n C 53 1 rfl dX11_cost_52 rfl ?_
            refine r_iload_n C 54 2 rfl dX11_cost_53 rfl ?_
            refine r_iload_n C 55 3 rfl dX11_cost_54 rfl ?_
            refine r_cViI C 58 [] (ok_f_X3_costOf x1 x2 x3 h_9) dX11_cost_55 lvX11_294 kt_117 rfl rfl rfl (by decide) (Nat.le_of_ble_eq_true rfl) rfl rfl (Nat.le_of_ble_eq_true rfl) rfl rfl (fun v_10 h_11 => ?_)
            exact r_iret C Rr dX11_cost_58 (fun _ => rfl) rfl
set_option maxHeartbeats 4000000 in
theorem ok_f_X11_cost (x1 : Int32) (x2 : Int32) (x3 : Int32) (x4 : Int32) (x5 : Int32)  (h : CH) : ∀ q, f_X11_cost x1 x2 x3 x4 x5 h = some q → MG yX11_cost cX11_cost 6 (some .int) [] 7 (fun ad => [.ref (ad 0), .int x1, .int x2, .int x3, .int x4, .int x5]) h ((fun (q : Int32 × CH) (_ : Nat → Nat) => some (Value.int q.1)) q) ((fun (q : (Int32 × CH)) => q.2) q) := mg_of RX11 (by decide) rfl (fun _ => Nat.le_of_ble_eq_true rfl) (fun κ C Rr => imp_f_X11_cost C x1 x2 x3 x4 x5 h Rr)
set_option maxHeartbeats 4000000 in
set_option maxRecDepth 100000 in
theorem imp_f_X3_countByFar_L44 {κ : Kx (Unit × CH)} (C : Cx κ cX3_countByFar RX3 4 4 (40 * 4) []) (x1 : Int32)  (k120 : CH → Option (Unit × CH)) (hk120 : ∀ (h_3 : CH), Imp κ 120 [(0, .ref (kad κ 117)), (1, .int (x1))] [] h_3 (k120 h_3)) (Rr : Rt κ none (fun (_ : Unit × CH) (_ : Nat → Nat) => (none : Option Value)) (fun (q : (Unit × CH)) => q.2)) : ∀ (n : Nat) (x2 : Int32) (h : CH), Imp κ 44 [(0, .ref (kad κ 117)), (1, .int (x1)), (2, .int (x2))] [] h (f_X3_countByFar_L44 x1 k120 n x2 h) := by
  intro n
  induction n with
  | zero => intros; exact imp_none
  | succ n ih =>
    intro x2 h
    rw [f_X3_countByFar_L44]
    refine r_iload_n C 45 2 rfl dX3_countByFar_44 rfl ?_
    refine r_aload_n C 46 0 rfl dX3_countByFar_45 rfl ?_
    refine r_getR C 49 dX3_countByFar_46 flX3_21 kt_117 rfl rf_117_0 rfl ?_
    refine r_getI C 52 dX3_countByFar_49 flX3_40 kt_7 rfl rfl ?_
    refine r_icmp_ge C 55 120 dX3_countByFar_52 (by decide) rfl (fun c_4 => ?_) (fun c_4 => ?_)
    · refine r_aload_n C 56 0 rfl dX3_countByFar_55 rfl ?_
      refine r_getR C 59 dX3_countByFar_56 flX3_25 kt_117 rfl rf_117_1 rfl ?_
      refine r_iload_n C 60 1 rfl dX3_countByFar_59 rfl ?_
      refine r_iload_n C 61 2 rfl dX3_countByFar_60 rfl ?_
      refine r_cVpI C 64 [] (ok_f_X1_apartFromPicture x1 x2 h) dX3_countByFar_61 lvX3_46 kt_81 rfl rfl rfl (by decide) (Nat.le_of_ble_eq_true rfl) rfl rfl (Nat.le_of_ble_eq_true rfl) rfl rfl (fun v_5 => ?_)
      refine r_istore_n C 65 3 [(3, .int (v_5)), (0, .ref (kad κ 117)), (1, .int (x1)), (2, .int (x2))] dX3_countByFar_64 rfl (by decide) rfl rfl ?_
      refine r_iload_n C 66 0 rfl dX3_countByFar_65 rfl ?_
      refine imp_jn (fun (j_7 : CH → Option (Unit × CH)) => ∀ (h_6 : CH), Imp κ 114 [(0, .ref (kad κ 117)), (1, .int (x1)), (2, .int (x2))] [] h_6 (j_7 h_6)) ?_ ?_
      · intro h_6
        refine r_iinc C 117 2 (nI 1) [(2, .int (x2 + (nI 1))), (0, .ref (kad κ 117)), (1, .int (x1))] dX3_countByFar_114 rfl (by decide) (by decide) rfl rfl ?_
        refine r_goto C 44 dX3_countByFar_117 (by decide) ?_
        exact imp_sub [(0, .ref (kad κ 117)), (1, .int (x1)), (2, .int (x2 + (nI 1)))] [1, 2, 0] rfl (ih (x2 + (nI 1)) h_6)
      · intro j_7 hj_7
        refine r_if_lt C 69 114 dX3_countByFar_66 (by decide) rfl (fun c_8 => ?_) (fun c_8 => ?_)
        · exact imp_sub [(0, .ref (kad κ 117)), (1, .int (x1)), (2, .int (x2))] [1, 2, 3] rfl (hj_7 h)
        · refine r_iload_n C 70 0 rfl dX3_countByFar_69 rfl ?_
          refine r_sipush C 73 (nI 800) (by decide) dX3_countByFar_70 rfl ?_
          refine r_icmp_gt C 76 114 dX3_countByFar_73 (by decide) rfl (fun c_9 => ?_) (fun c_9 => ?_)
          · exact imp_sub [(0, .ref (kad κ 117)), (1, .int (x1)), (2, .int (x2))] [1, 2, 3] rfl (hj_7 h)
          · refine r_aload_n C 77 1 rfl dX3_countByFar_76 rfl ?_
            refine r_getR C 80 dX3_countByFar_77 flX3_15 kt_117 rfl rf_117_3 rfl ?_
            refine r_iload_n C 81 0 rfl dX3_countByFar_80 rfl ?_
            refine r_dup2 C 82 rfl rfl dX3_countByFar_81 rfl ?_
            refine r_iald C 83 dX3_countByFar_82 kt_119 rfl rfl (fun v_10 => ?_)
            refine r_iload_n C 84 2 rfl dX3_countByFar_83 rfl ?_
            refine r_iload_n C 85 3 rfl dX3_countByFar_84 rfl ?_
            refine imp_jn (fun (j_14 : Int32 → Int32 → Int32 → Option (Unit × CH)) => ∀ (s_11 : Int32) (s_12 : Int32) (s_13 : Int32), Imp κ 93 [(0, .ref (kad κ 117)), (1, .int (x1)), (2, .int (x2)), (3, .int (v_5))] [.int (s_11), .int (s_12), .int (s_13), .ref (kad κ 119)] h (j_14 s_11 s_12 s_13)) ?_ ?_
            · intro s_11 s_12 s_13
              refine r_iadd C 94 dX3_countByFar_93 rfl ?_
              refine r_iast C 95 dX3_countByFar_94 kt_119 rfl rfl (fun h_15 => ?_)
              refine r_aload_n C 96 0 rfl dX3_countByFar_95 rfl ?_
              refine r_getR C 99 dX3_countByFar_96 flX3_18 kt_117 rfl rf_117_4 rfl ?_
              refine r_iload_n C 100 3 rfl dX3_countByFar_99 rfl ?_
              refine r_dup2 C 101 rfl rfl dX3_countByFar_100 rfl ?_
              refine r_iald C 102 dX3_countByFar_101 kt_120 rfl rfl (fun v_16 => ?_)
              refine r_iload_n C 103 1 rfl dX3_countByFar_102 rfl ?_
              refine r_iload_n C 104 2 rfl dX3_countByFar_103 rfl ?_
              refine imp_jn (fun (j_20 : Int32 → Int32 → Int32 → Option (Unit × CH)) => ∀ (s_17 : Int32) (s_18 : Int32) (s_19 : Int32), Imp κ 112 [(0, .ref (kad κ 117)), (1, .int (x1)), (2, .int (x2))] [.int (s_17), .int (s_18), .int (s_19), .ref (kad κ 120)] h_15 (j_20 s_17 s_18 s_19)) ?_ ?_
              · intro s_17 s_18 s_19
                refine r_iadd C 113 dX3_countByFar_112 rfl ?_
                refine r_iast C 114 dX3_countByFar_113 kt_120 rfl rfl (fun h_21 => ?_)
                exact imp_sub [(0, .ref (kad κ 117)), (1, .int (x1)), (2, .int (x2))] [0, 1, 2] rfl (hj_7 h_21)
              · intro j_20 hj_20
                refine r_icmp_ne C 107 111 dX3_countByFar_104 (by decide) rfl (fun c_22 => ?_) (fun c_22 => ?_)
                · refine r_iconst C 108 (nI 1) (by decide) dX3_countByFar_107 rfl ?_
                  refine r_goto C 112 dX3_countByFar_108 (by decide) ?_
                  exact imp_sub [(0, .ref (kad κ 117)), (1, .int (x1)), (2, .int (x2))] [0, 1, 2] rfl (hj_20 ((nI 1)) (v_16) (v_5))
                · refine r_iconst C 112 (nI 0) (by decide) dX3_countByFar_111 rfl ?_
                  exact imp_sub [(0, .ref (kad κ 117)), (1, .int (x1)), (2, .int (x2))] [0, 1, 2] rfl (hj_20 ((nI 0)) (v_16) (v_5))
            · intro j_14 hj_14
              refine r_icmp_ne C 88 92 dX3_countByFar_85 (by decide) rfl (fun c_23 => ?_) (fun c_23 => ?_)
              · refine r_iconst C 89 (nI 0) (by decide) dX3_countByFar_88 rfl ?_
                refine r_goto C 93 dX3_countByFar_89 (by decide) ?_
                exact imp_sub [(0, .ref (kad κ 117)), (1, .int (x1)), (2, .int (x2)), (3, .int (v_5))] [1, 2, 3, 0] rfl (hj_14 ((nI 0)) (v_10) (v_5))
              · refine r_iconst C 93 (nI 1) (by decide) dX3_countByFar_92 rfl ?_
                exact imp_sub [(0, .ref (kad κ 117)), (1, .int (x1)), (2, .int (x2)), (3, .int (v_5))] [1, 2, 3, 0] rfl (hj_14 ((nI 1)) (v_10) (v_5))
    · exact imp_sub [(0, .ref (kad κ 117)), (1, .int (x1))] [0, 1] rfl (hk120 h)
set_option maxHeartbeats 4000000 in
set_option maxRecDepth 100000 in
theorem imp_f_X3_countByFar_L31 {κ : Kx (Unit × CH)} (C : Cx κ cX3_countByFar RX3 4 4 (40 * 4) [])     (Rr : Rt κ none (fun (_ : Unit × CH) (_ : Nat → Nat) => (none : Option Value)) (fun (q : (Unit × CH)) => q.2)) : ∀ (n : Nat) (x1 : Int32) (h : CH), Imp κ 31 [(0, .ref (kad κ 117)), (1, .int (x1))] [] h (f_X3_countByFar_L31 n x1 h) := by
  intro n
  induction n with
  | zero => intros; exact imp_none
  | succ n ih =>
    intro x1 h
    rw [f_X3_countByFar_L31]
    refine r_iload_n C 32 1 rfl dX3_countByFar_31 rfl ?_
    refine r_aload_n C 33 0 rfl dX3_countByFar_32 rfl ?_
    refine r_getR C 36 dX3_countByFar_33 flX3_21 kt_117 rfl rf_117_0 rfl ?_
    refine r_getI C 39 dX3_countByFar_36 flX3_40 kt_7 rfl rfl ?_
    refine r_icmp_ge C 42 126 dX3_countByFar_39 (by decide) rfl (fun c_2 => ?_) (fun c_2 => ?_)
    · refine r_iconst C 43 (nI 0) (by decide) dX3_countByFar_42 rfl ?_
      refine r_istore_n C 44 2 [(2, .int ((nI 0))), (0, .ref (kad κ 117)), (1, .int (x1))] dX3_countByFar_43 rfl (by decide) rfl rfl ?_
      refine imp_sub [(0, .ref (kad κ 117)), (1, .int (x1)), (2, .int ((nI 0)))] [1, 2, 0] rfl ?_
      refine imp_f_X3_countByFar_L44 C (x1) _ ?_ Rr FU ((nI 0)) h
      · intro h_3
        refine r_iinc C 123 1 (nI 1) [(1, .int (x1 + (nI 1))), (0, .ref (kad κ 117))] dX3_countByFar_120 rfl (by decide) (by decide) rfl rfl ?_
        refine r_goto C 31 dX3_countByFar_123 (by decide) ?_
        exact imp_sub [(0, .ref (kad κ 117)), (1, .int (x1 + (nI 1)))] [1, 0] rfl (ih (x1 + (nI 1)) h_3)
    · exact r_vret C Rr dX3_countByFar_126 (fun _ => rfl) rfl
set_option maxHeartbeats 4000000 in
set_option maxRecDepth 100000 in
theorem imp_f_X3_countByFar_L2 {κ : Kx (Unit × CH)} (C : Cx κ cX3_countByFar RX3 4 4 (40 * 4) [])     (Rr : Rt κ none (fun (_ : Unit × CH) (_ : Nat → Nat) => (none : Option Value)) (fun (q : (Unit × CH)) => q.2)) : ∀ (n : Nat) (x1 : Int32) (h : CH), Imp κ 2 [(0, .ref (kad κ 117)), (1, .int (x1))] [] h (f_X3_countByFar_L2 n x1 h) := by
  intro n
  induction n with
  | zero => intros; exact imp_none
  | succ n ih =>
    intro x1 h
    rw [f_X3_countByFar_L2]
    refine r_iload_n C 3 1 rfl dX3_countByFar_2 rfl ?_
    refine r_sipush C 6 (nI 800) (by decide) dX3_countByFar_3 rfl ?_
    refine r_icmp_gt C 9 29 dX3_countByFar_6 (by decide) rfl (fun c_1 => ?_) (fun c_1 => ?_)
    · refine r_iconst C 30 (nI 0) (by decide) dX3_countByFar_29 rfl ?_
      refine r_istore_n C 31 1 [(1, .int ((nI 0))), (0, .ref (kad κ 117))] dX3_countByFar_30 rfl (by decide) rfl rfl ?_
      refine imp_sub [(0, .ref (kad κ 117)), (1, .int ((nI 0)))] [1, 0] rfl ?_
      refine imp_f_X3_countByFar_L31 C Rr FU ((nI 0)) h
    · refine r_aload_n C 10 0 rfl dX3_countByFar_9 rfl ?_
      refine r_getR C 13 dX3_countByFar_10 flX3_15 kt_117 rfl rf_117_3 rfl ?_
      refine r_iload_n C 14 1 rfl dX3_countByFar_13 rfl ?_
      refine r_iconst C 15 (nI 0) (by decide) dX3_countByFar_14 rfl ?_
      refine r_iast C 16 dX3_countByFar_15 kt_119 rfl rfl (fun h_24 => ?_)
      refine r_aload_n C 17 0 rfl dX3_countByFar_16 rfl ?_
      refine r_getR C 20 dX3_countByFar_17 flX3_18 kt_117 rfl rf_117_4 rfl ?_
      refine r_iload_n C 21 1 rfl dX3_countByFar_20 rfl ?_
      refine r_iconst C 22 (nI 0) (by decide) dX3_countByFar_21 rfl ?_
      refine r_iast C 23 dX3_countByFar_22 kt_120 rfl rfl (fun h_25 => ?_)
      refine r_iinc C 26 1 (nI 1) [(1, .int (x1 + (nI 1))), (0, .ref (kad κ 117))] dX3_countByFar_23 rfl (by decide) (by decide) rfl rfl ?_
      refine r_goto C 2 dX3_countByFar_26 (by decide) ?_
      exact imp_sub [(0, .ref (kad κ 117)), (1, .int (x1 + (nI 1)))] [1, 0] rfl (ih (x1 + (nI 1)) h_25)
set_option maxHeartbeats 4000000 in
set_option maxRecDepth 100000 in
theorem imp_f_X3_countByFar {κ : Kx (Unit × CH)} (C : Cx κ cX3_countByFar RX3 4 4 (40 * 4) [])   (h : CH) (Rr : Rt κ none (fun (_ : Unit × CH) (_ : Nat → Nat) => (none : Option Value)) (fun (q : (Unit × CH)) => q.2)) : Imp κ 0 [(0, .ref (kad κ 117))] [] h (f_X3_countByFar h) := by
  unfold f_X3_countByFar
  refine r_iconst C 1 (nI 0) (by decide) dX3_countByFar_0 rfl ?_
  refine r_istore_n C 2 1 [(1, .int ((nI 0))), (0, .ref (kad κ 117))] dX3_countByFar_1 rfl (by decide) rfl rfl ?_
  refine imp_sub [(0, .ref (kad κ 117)), (1, .int ((nI 0)))] [1, 0] rfl ?_
  refine imp_f_X3_countByFar_L2 C Rr FU ((nI 0)) h
set_option maxHeartbeats 4000000 in
theorem ok_f_X3_countByFar   (h : CH) : ∀ q, f_X3_countByFar h = some q → MG yX3_countByFar cX3_countByFar 4 none [] 4 (fun ad => [.ref (ad 117)]) h ((fun (_ : Unit × CH) (_ : Nat → Nat) => (none : Option Value)) q) ((fun (q : (Unit × CH)) => q.2) q) := mg_of RX3 (by decide) rfl (fun _ => Nat.le_of_ble_eq_true rfl) (fun κ C Rr => imp_f_X3_countByFar C  h Rr)
set_option maxHeartbeats 4000000 in
set_option maxRecDepth 100000 in
theorem imp_f_X3_cheapest_L24 {κ : Kx (Int32 × CH)} (C : Cx κ cX3_cheapest RX3 9 5 (40 * 5) []) (x1 : Int32) (x2 : Int32) (h : CH)    (Rr : Rt κ (some .int) (fun (q : Int32 × CH) (_ : Nat → Nat) => some (Value.int q.1)) (fun (q : (Int32 × CH)) => q.2)) : ∀ (n : Nat) (x3 : Int32) (x4 : Int32) (x5 : Int32) (x6 : Int32) (x7 : Int32), Imp κ 24 [(0, .ref (kad κ 117)), (1, .int (x1)), (2, .int (x2)), (3, .int (x3)), (4, .int (x4)), (5, .int (x5)), (6, .int (x6)), (7, .int (x7))] [] h (f_X3_cheapest_L24 x1 x2 h n x3 x4 x5 x6 x7) := by
  intro n
  induction n with
  | zero => intros; exact imp_none
  | succ n ih =>
    intro x3 x4 x5 x6 x7
    rw [f_X3_cheapest_L24]
    refine r_iload C 26 7 rfl dX3_cheapest_24 rfl ?_
    refine r_sipush C 29 (nI 800) (by decide) dX3_cheapest_26 rfl ?_
    refine r_icmp_gt C 32 92 dX3_cheapest_29 (by decide) rfl (fun c_2 => ?_) (fun c_2 => ?_)
    · refine r_iload_n C 93 3 rfl dX3_cheapest_92 rfl ?_
      exact r_iret C Rr dX3_cheapest_93 (fun _ => rfl) rfl
    · refine r_iload C 34 5 rfl dX3_cheapest_32 rfl ?_
      refine r_aload_n C 35 0 rfl dX3_cheapest_34 rfl ?_
      refine r_getR C 38 dX3_cheapest_35 flX3_15 kt_117 rfl rf_117_3 rfl ?_
      refine r_iload C 40 7 rfl dX3_cheapest_38 rfl ?_
      refine r_iald C 41 dX3_cheapest_40 kt_119 rfl rfl (fun v_3 => ?_)
      refine r_iadd C 42 dX3_cheapest_41 rfl ?_
      refine r_istore C 44 [(5, .int ((x5) + (v_3))), (0, .ref (kad κ 117)), (1, .int (x1)), (2, .int (x2)), (3, .int (x3)), (4, .int (x4)), (6, .int (x6)), (7, .int (x7))] dX3_cheapest_42 (by decide) rfl rfl ?_
      refine r_iload C 46 6 rfl dX3_cheapest_44 rfl ?_
      refine r_aload_n C 47 1 rfl dX3_cheapest_46 rfl ?_
      refine r_getR C 50 dX3_cheapest_47 flX3_18 kt_117 rfl rf_117_4 rfl ?_
      refine r_iload C 52 7 rfl dX3_cheapest_50 rfl ?_
      refine r_iald C 53 dX3_cheapest_52 kt_120 rfl rfl (fun v_4 => ?_)
      refine r_isub C 54 dX3_cheapest_53 rfl ?_
      refine r_istore C 56 [(6, .int ((x6) - (v_4))), (5, .int ((x5) + (v_3))), (0, .ref (kad κ 117)), (1, .int (x1)), (2, .int (x2)), (3, .int (x3)), (4, .int (x4)), (7, .int (x7))] dX3_cheapest_54 (by decide) rfl rfl ?_
      refine r_iload_n C 57 3 rfl dX3_cheapest_56 rfl ?_
      refine r_iload C 59 1 rfl dX3_cheapest_57 rfl ?_
      refine r_imul C 60 dX3_cheapest_59 rfl ?_
      refine r_iload_n C 61 4 rfl dX3_cheapest_60 rfl ?_
      refine r_iload C 63 0 rfl dX3_cheapest_61 rfl ?_
      refine r_imul C 64 dX3_cheapest_63 rfl ?_
      refine r_iadd C 65 dX3_cheapest_64 rfl ?_
      refine r_istore C 67 [(8, .int (((x1) * ((x5) + (v_3))) + ((x2) * ((x6) - (v_4))))), (6, .int ((x6) - (v_4))), (5, .int ((x5) + (v_3))), (0, .ref (kad κ 117)), (1, .int (x1)), (2, .int (x2)), (3, .int (x3)), (4, .int (x4)), (7, .int (x7))] dX3_cheapest_65 (by decide) rfl rfl ?_
      refine r_iload C 69 8 rfl dX3_cheapest_67 rfl ?_
      refine imp_jn (fun (j_7 : Int32 → Int32 → Option (Int32 × CH)) => ∀ (x3_5 : Int32) (x4_6 : Int32), Imp κ 86 [(0, .ref (kad κ 117)), (1, .int (x1)), (2, .int (x2)), (3, .int (x3_5)), (4, .int (x4_6)), (5, .int ((x5) + (v_3))), (6, .int ((x6) - (v_4))), (7, .int (x7))] [] h (j_7 x3_5 x4_6)) ?_ ?_
      · intro x3_5 x4_6
        refine r_iinc C 89 7 (nI 1) [(7, .int (x7 + (nI 1))), (0, .ref (kad κ 117)), (1, .int (x1)), (2, .int (x2)), (3, .int (x3_5)), (4, .int (x4_6)), (5, .int ((x5) + (v_3))), (6, .int ((x6) - (v_4)))] dX3_cheapest_86 rfl (by decide) (by decide) rfl rfl ?_
        refine r_goto C 24 dX3_cheapest_89 (by decide) ?_
        exact imp_sub [(0, .ref (kad κ 117)), (1, .int (x1)), (2, .int (x2)), (3, .int (x3_5)), (4, .int (x4_6)), (5, .int ((x5) + (v_3))), (6, .int ((x6) - (v_4))), (7, .int (x7 + (nI 1)))] [1, 2, 3, 4, 5, 6, 7, 0] rfl (ih (x3_5) (x4_6) ((x5) + (v_3)) ((x6) - (v_4)) (x7 + (nI 1)))
      · intro j_7 hj_7
        refine imp_jn (fun (j_8 : Option (Int32 × CH)) =>  Imp κ 79 [(0, .ref (kad κ 117)), (1, .int (x1)), (2, .int (x2)), (5, .int ((x5) + (v_3))), (6, .int ((x6) - (v_4))), (7, .int (x7)), (8, .int (((x1) * ((x5) + (v_3))) + ((x2) * ((x6) - (v_4)))))] [] h (j_8)) ?_ ?_
        · refine r_iload C 81 5 rfl dX3_cheapest_79 rfl ?_
          refine r_istore_n C 82 3 [(3, .int (x7)), (0, .ref (kad κ 117)), (1, .int (x1)), (2, .int (x2)), (5, .int ((x5) + (v_3))), (6, .int ((x6) - (v_4))), (7, .int (x7)), (8, .int (((x1) * ((x5) + (v_3))) + ((x2) * ((x6) - (v_4)))))] dX3_cheapest_81 rfl (by decide) rfl rfl ?_
          refine r_iload C 84 7 rfl dX3_cheapest_82 rfl ?_
          refine r_istore C 86 [(4, .int (((x1) * ((x5) + (v_3))) + ((x2) * ((x6) - (v_4))))), (3, .int (x7)), (0, .ref (kad κ 117)), (1, .int (x1)), (2, .int (x2)), (5, .int ((x5) + (v_3))), (6, .int ((x6) - (v_4))), (7, .int (x7)), (8, .int (((x1) * ((x5) + (v_3))) + ((x2) * ((x6) - (v_4)))))] dX3_cheapest_84 (by decide) rfl rfl ?_
          exact imp_sub [(0, .ref (kad κ 117)), (1, .int (x1)), (2, .int (x2)), (3, .int (x7)), (4, .int (((x1) * ((x5) + (v_3))) + ((x2) * ((x6) - (v_4))))), (5, .int ((x5) + (v_3))), (6, .int ((x6) - (v_4))), (7, .int (x7))] [2, 3, 4, 1, 0, 5, 6, 7] rfl (hj_7 (x7) (((x1) * ((x5) + (v_3))) + ((x2) * ((x6) - (v_4)))))
        · intro j_8 hj_8
          refine r_if_eq C 72 79 dX3_cheapest_69 (by decide) rfl (fun c_9 => ?_) (fun c_9 => ?_)
          · exact imp_sub [(0, .ref (kad κ 117)), (1, .int (x1)), (2, .int (x2)), (5, .int ((x5) + (v_3))), (6, .int ((x6) - (v_4))), (7, .int (x7)), (8, .int (((x1) * ((x5) + (v_3))) + ((x2) * ((x6) - (v_4)))))] [3, 4, 5, 2, 1, 8, 0] rfl (hj_8)
          · refine r_iload C 74 0 rfl dX3_cheapest_72 rfl ?_
            refine r_iload C 76 7 rfl dX3_cheapest_74 rfl ?_
            refine r_icmp_ge C 79 86 dX3_cheapest_76 (by decide) rfl (fun c_10 => ?_) (fun c_10 => ?_)
            · exact imp_sub [(0, .ref (kad κ 117)), (1, .int (x1)), (2, .int (x2)), (5, .int ((x5) + (v_3))), (6, .int ((x6) - (v_4))), (7, .int (x7)), (8, .int (((x1) * ((x5) + (v_3))) + ((x2) * ((x6) - (v_4)))))] [3, 4, 5, 2, 1, 8, 0] rfl (hj_8)
            · exact imp_sub [(0, .ref (kad κ 117)), (1, .int (x1)), (2, .int (x2)), (3, .int (x3)), (4, .int (x4)), (5, .int ((x5) + (v_3))), (6, .int ((x6) - (v_4))), (7, .int (x7))] [3, 4, 5, 6, 7, 2, 1, 8] rfl (hj_7 (x3) (x4))
set_option maxHeartbeats 4000000 in
set_option maxRecDepth 100000 in
theorem imp_f_X3_cheapest {κ : Kx (Int32 × CH)} (C : Cx κ cX3_cheapest RX3 9 5 (40 * 5) []) (x1 : Int32) (x2 : Int32)  (h : CH) (Rr : Rt κ (some .int) (fun (q : Int32 × CH) (_ : Nat → Nat) => some (Value.int q.1)) (fun (q : (Int32 × CH)) => q.2)) : Imp κ 0 [(0, .ref (kad κ 117)), (1, .int (x1)), (2, .int (x2))] [] h (f_X3_cheapest x1 x2 h) := by
  unfold f_X3_cheapest
  refine r_aload_n C 1 0 rfl dX3_cheapest_0 rfl ?_
  refine r_cViV C 4 [] (ok_f_X3_countByFar h) dX3_cheapest_1 lvX3_37 kt_117 rfl rfl rfl (by decide) (Nat.le_of_ble_eq_true rfl) rfl rfl (Nat.le_of_ble_eq_true rfl) rfl rfl (fun _ h_1 => ?_)
  refine r_iconst C 5 (nI 0) (by decide) dX3_cheapest_4 rfl ?_
  refine r_istore_n C 6 3 [(3, .int ((nI 0))), (0, .ref (kad κ 117)), (1, .int (x1)), (2, .int (x2))] dX3_cheapest_5 rfl (by decide) rfl rfl ?_
  refine r_iconst C 7 (nI 0) (by decide) dX3_cheapest_6 rfl ?_
  refine r_istore C 9 [(4, .int ((nI 0))), (3, .int ((nI 0))), (0, .ref (kad κ 117)), (1, .int (x1)), (2, .int (x2))] dX3_cheapest_7 (by decide) rfl rfl ?_
  refine r_iconst C 10 (nI 0) (by decide) dX3_cheapest_9 rfl ?_
  refine r_istore C 12 [(5, .int ((nI 0))), (4, .int ((nI 0))), (3, .int ((nI 0))), (0, .ref (kad κ 117)), (1, .int (x1)), (2, .int (x2))] dX3_cheapest_10 (by decide) rfl rfl ?_
  refine r_aload_n C 13 3 rfl dX3_cheapest_12 rfl ?_
  refine r_getR C 16 dX3_cheapest_13 flX3_21 kt_117 rfl rf_117_0 rfl ?_
  refine r_getI C 19 dX3_cheapest_16 flX3_40 kt_7 rfl rfl ?_
  refine r_istore C 21 [(6, .int (h_1.1 7 2)), (5, .int ((nI 0))), (4, .int ((nI 0))), (3, .int ((nI 0))), (0, .ref (kad κ 117)), (1, .int (x1)), (2, .int (x2))] dX3_cheapest_19 (by decide) rfl rfl ?_
  refine r_iconst C 22 (nI 0) (by decide) dX3_cheapest_21 rfl ?_
  refine r_istore C 24 [(7, .int ((nI 0))), (6, .int (h_1.1 7 2)), (5, .int ((nI 0))), (4, .int ((nI 0))), (3, .int ((nI 0))), (0, .ref (kad κ 117)), (1, .int (x1)), (2, .int (x2))] dX3_cheapest_22 (by decide) rfl rfl ?_
  refine imp_sub [(0, .ref (kad κ 117)), (1, .int (x1)), (2, .int (x2)), (3, .int ((nI 0))), (4, .int ((nI 0))), (5, .int ((nI 0))), (6, .int (h_1.1 7 2)), (7, .int ((nI 0)))] [5, 6, 7, 4, 3, 2, 1, 0] rfl ?_
  refine imp_f_X3_cheapest_L24 C (x1) (x2) h_1 Rr FU ((nI 0)) ((nI 0)) ((nI 0)) (h_1.1 7 2) ((nI 0))
set_option maxHeartbeats 4000000 in
theorem ok_f_X3_cheapest (x1 : Int32) (x2 : Int32)  (h : CH) : ∀ q, f_X3_cheapest x1 x2 h = some q → MG yX3_cheapest cX3_cheapest 9 (some .int) [] 5 (fun ad => [.ref (ad 117), .int x1, .int x2]) h ((fun (q : Int32 × CH) (_ : Nat → Nat) => some (Value.int q.1)) q) ((fun (q : (Int32 × CH)) => q.2) q) := mg_of RX3 (by decide) rfl (fun _ => Nat.le_of_ble_eq_true rfl) (fun κ C Rr => imp_f_X3_cheapest C x1 x2 h Rr)
set_option maxHeartbeats 4000000 in
set_option maxRecDepth 100000 in
theorem imp_f_X11_bestBar {κ : Kx (Int32 × CH)} (C : Cx κ cX11_bestBar RX11 5 6 (40 * 6) []) (x1 : Int32) (x2 : Int32) (x3 : Int32) (x4 : Int32)  (h : CH) (Rr : Rt κ (some .int) (fun (q : Int32 × CH) (_ : Nat → Nat) => some (Value.int q.1)) (fun (q : (Int32 × CH)) => q.2)) : Imp κ 0 [(0, .ref (kad κ 0)), (1, .int (x1)), (2, .int (x2)), (3, .int (x3)), (4, .int (x4))] [] h (f_X11_bestBar x1 x2 x3 x4 h) := by
  unfold f_X11_bestBar
  refine r_iload_n C 1 1 rfl dX11_bestBar_0 rfl ?_
  refine r_cSpI C 4 [] (ok_f_X11_isPrice x1 h) dX11_bestBar_1 lsX11_291 rfl (by decide) (Nat.le_of_ble_eq_true rfl) rfl rfl (Nat.le_of_ble_eq_true rfl) rfl rfl (fun v_1 => ?_)
  refine r_if_eq C 7 23 dX11_bestBar_4 (by decide) rfl (fun c_2 => ?_) (fun c_2 => ?_)
  · refine r_iconst C 24 (-1) (by decide) dX11_bestBar_23 rfl ?_
    exact r_iret C Rr dX11_bestBar_24 (fun _ => rfl) rfl
  · refine r_iload_n C 8 2 rfl dX11_bestBar_7 rfl ?_
    refine r_cSpI C 11 [] (ok_f_X11_isPrice x2 h) dX11_bestBar_8 lsX11_291 rfl (by decide) (Nat.le_of_ble_eq_true rfl) rfl rfl (Nat.le_of_ble_eq_true rfl) rfl rfl (fun v_3 => ?_)
    refine r_if_eq C 14 23 dX11_bestBar_11 (by decide) rfl (fun c_4 => ?_) (fun c_4 => ?_)
    · refine r_iconst C 24 (-1) (by decide) dX11_bestBar_23 rfl ?_
      exact r_iret C Rr dX11_bestBar_24 (fun _ => rfl) rfl
    · refine r_iload_n C 15 3 rfl dX11_bestBar_14 rfl ?_
      refine r_iload C 17 4 rfl dX11_bestBar_15 rfl ?_
      refine r_cSpI C 20 [] (ok_f_X11_isWhen x3 x4 h) dX11_bestBar_17 lsX11_177 rfl (by decide) (Nat.le_of_ble_eq_true rfl) rfl rfl (Nat.le_of_ble_eq_true rfl) rfl rfl (fun v_5 => ?_)
      refine r_if_ne C 23 25 dX11_bestBar_20 (by decide) rfl (fun c_6 => ?_) (fun c_6 => ?_)
      · refine r_iconst C 24 (-1) (by decide) dX11_bestBar_23 rfl ?_
        exact r_iret C Rr dX11_bestBar_24 (fun _ => rfl) rfl
      · refine r_aload_n C 26 0 rfl dX11_bestBar_25 rfl ?_
        refine r_getR C 29 dX11_bestBar_26 flX11_75 kt_0 rfl rf_0_12 rfl ?_
        refine r_iload_n C 30 3 rfl dX11_bestBar_29 rfl ?_
        refine r_iload C 32 4 rfl dX11_bestBar_30 rfl ?_
        refine r_cViV C 35 [] (ok_f_X1_open x3 x4 h) dX11_bestBar_32 lvX11_181 kt_81 rfl rfl rfl (by decide) (Nat.le_of_ble_eq_true rfl) rfl rfl (Nat.le_of_ble_eq_true rfl) rfl rfl (fun _ h_7 => ?_)
        refine r_aload_n C 36 0 rfl dX11_bestBar_35 rfl ?_
        refine r_getR C 39 dX11_bestBar_36 flX11_84 kt_0 rfl rf_0_13 rfl ?_
        refine r_iload_n C 40 1 rfl dX11_bestBar_39 rfl ?_
        refine r_iload_n C 41 2 rfl dX11_bestBar_40 rfl ?_
        refine r_cViI C 44 [] (ok_f_X3_cheapest x1 x2 h_7) dX11_bestBar_41 lvX11_297 kt_117 rfl rfl rfl (by decide) (Nat.le_of_ble_eq_true rfl) rfl rfl (Nat.le_of_ble_eq_true rfl) rfl rfl (fun v_8 h_9 => ?_)
        exact r_iret C Rr dX11_bestBar_44 (fun _ => rfl) rfl
set_option maxHeartbeats 4000000 in
theorem ok_f_X11_bestBar (x1 : Int32) (x2 : Int32) (x3 : Int32) (x4 : Int32)  (h : CH) : ∀ q, f_X11_bestBar x1 x2 x3 x4 h = some q → MG yX11_bestBar cX11_bestBar 5 (some .int) [] 6 (fun ad => [.ref (ad 0), .int x1, .int x2, .int x3, .int x4]) h ((fun (q : Int32 × CH) (_ : Nat → Nat) => some (Value.int q.1)) q) ((fun (q : (Int32 × CH)) => q.2) q) := mg_of RX11 (by decide) rfl (fun _ => Nat.le_of_ble_eq_true rfl) (fun κ C Rr => imp_f_X11_bestBar C x1 x2 x3 x4 h Rr)
set_option maxHeartbeats 4000000 in
set_option maxRecDepth 100000 in
theorem imp_f_X9_countOfKind_7_L4 {κ : Kx Int32} (C : Cx κ cX9_countOfKind RX9 4 3 (40 * 3) []) (x1 : Int32) (h : CH)    (Rr : Rt κ (some .int) (fun (x : Int32) (_ : Nat → Nat) => some (Value.int x)) (fun (_ : Int32) => h)) : ∀ (n : Nat) (x2 : Int32) (x3 : Int32), Imp κ 4 [(0, .ref (kad κ 7)), (1, .int (x1)), (2, .int (x2)), (3, .int (x3))] [] h (f_X9_countOfKind_7_L4 x1 h n x2 x3) := by
  intro n
  induction n with
  | zero => intros; exact imp_none
  | succ n ih =>
    intro x2 x3
    rw [f_X9_countOfKind_7_L4]
    refine r_iload_n C 5 3 rfl dX9_countOfKind_4 rfl ?_
    refine r_aload_n C 6 0 rfl dX9_countOfKind_5 rfl ?_
    refine r_getI C 9 dX9_countOfKind_6 flX9_18 kt_7 rfl rfl ?_
    refine r_icmp_ge C 12 30 dX9_countOfKind_9 (by decide) rfl (fun c_1 => ?_) (fun c_1 => ?_)
    · refine r_aload_n C 13 0 rfl dX9_countOfKind_12 rfl ?_
      refine r_iload_n C 14 3 rfl dX9_countOfKind_13 rfl ?_
      refine r_cVpI C 17 [] (ok_f_X9_kindOf_7 x3 h) dX9_countOfKind_14 lvX9_63 kt_7 rfl rfl rfl (by decide) (Nat.le_of_ble_eq_true rfl) rfl rfl (Nat.le_of_ble_eq_true rfl) rfl rfl (fun v_2 => ?_)
      refine r_iload_n C 18 1 rfl dX9_countOfKind_17 rfl ?_
      refine imp_jn (fun (j_4 : Int32 → Option Int32) => ∀ (x2_3 : Int32), Imp κ 24 [(0, .ref (kad κ 7)), (1, .int (x1)), (2, .int (x2_3)), (3, .int (x3))] [] h (j_4 x2_3)) ?_ ?_
      · intro x2_3
        refine r_iinc C 27 3 (nI 1) [(3, .int (x3 + (nI 1))), (0, .ref (kad κ 7)), (1, .int (x1)), (2, .int (x2_3))] dX9_countOfKind_24 rfl (by decide) (by decide) rfl rfl ?_
        refine r_goto C 4 dX9_countOfKind_27 (by decide) ?_
        exact imp_sub [(0, .ref (kad κ 7)), (1, .int (x1)), (2, .int (x2_3)), (3, .int (x3 + (nI 1)))] [1, 2, 3, 0] rfl (ih (x2_3) (x3 + (nI 1)))
      · intro j_4 hj_4
        refine r_icmp_ne C 21 24 dX9_countOfKind_18 (by decide) rfl (fun c_5 => ?_) (fun c_5 => ?_)
        · refine r_iinc C 24 2 (nI 1) [(2, .int (x2 + (nI 1))), (0, .ref (kad κ 7)), (1, .int (x1)), (3, .int (x3))] dX9_countOfKind_21 rfl (by decide) (by decide) rfl rfl ?_
          exact imp_sub [(0, .ref (kad κ 7)), (1, .int (x1)), (2, .int (x2 + (nI 1))), (3, .int (x3))] [1, 2, 0, 3] rfl (hj_4 (x2 + (nI 1)))
        · exact imp_sub [(0, .ref (kad κ 7)), (1, .int (x1)), (2, .int (x2)), (3, .int (x3))] [0, 1, 2, 3] rfl (hj_4 (x2))
    · refine r_iload_n C 31 2 rfl dX9_countOfKind_30 rfl ?_
      exact r_iret C Rr dX9_countOfKind_31 (fun _ => rfl) rfl
set_option maxHeartbeats 4000000 in
set_option maxRecDepth 100000 in
theorem imp_f_X9_countOfKind_7 {κ : Kx Int32} (C : Cx κ cX9_countOfKind RX9 4 3 (40 * 3) []) (x1 : Int32)  (h : CH) (Rr : Rt κ (some .int) (fun (x : Int32) (_ : Nat → Nat) => some (Value.int x)) (fun (_ : Int32) => h)) : Imp κ 0 [(0, .ref (kad κ 7)), (1, .int (x1))] [] h (f_X9_countOfKind_7 x1 h) := by
  unfold f_X9_countOfKind_7
  refine r_iconst C 1 (nI 0) (by decide) dX9_countOfKind_0 rfl ?_
  refine r_istore_n C 2 2 [(2, .int ((nI 0))), (0, .ref (kad κ 7)), (1, .int (x1))] dX9_countOfKind_1 rfl (by decide) rfl rfl ?_
  refine r_iconst C 3 (nI 0) (by decide) dX9_countOfKind_2 rfl ?_
  refine r_istore_n C 4 3 [(3, .int ((nI 0))), (2, .int ((nI 0))), (0, .ref (kad κ 7)), (1, .int (x1))] dX9_countOfKind_3 rfl (by decide) rfl rfl ?_
  refine imp_sub [(0, .ref (kad κ 7)), (1, .int (x1)), (2, .int ((nI 0))), (3, .int ((nI 0)))] [2, 3, 1, 0] rfl ?_
  refine imp_f_X9_countOfKind_7_L4 C (x1) h Rr FU ((nI 0)) ((nI 0))
set_option maxHeartbeats 4000000 in
theorem ok_f_X9_countOfKind_7 (x1 : Int32)  (h : CH) : ∀ q, f_X9_countOfKind_7 x1 h = some q → MG yX9_countOfKind cX9_countOfKind 4 (some .int) [] 3 (fun ad => [.ref (ad 7), .int x1]) h ((fun (x : Int32) (_ : Nat → Nat) => some (Value.int x)) q) ((fun (_ : Int32) => h) q) := mg_of RX9 (by decide) rfl (fun _ => Nat.le_of_ble_eq_true rfl) (fun κ C Rr => imp_f_X9_countOfKind_7 C x1 h Rr)
set_option maxHeartbeats 4000000 in
set_option maxRecDepth 100000 in
theorem imp_f_X3_ownBar_L40 {κ : Kx Int32} (C : Cx κ cX3_ownBar RX3 7 5 (40 * 5) []) (x1 : Int32) (x2 : Int32) (x3 : Int32) (h : CH)    (Rr : Rt κ (some .int) (fun (x : Int32) (_ : Nat → Nat) => some (Value.int x)) (fun (_ : Int32) => h)) : ∀ (n : Nat) (x4 : Int32) (x5 : Int32), Imp κ 40 [(0, .ref (kad κ 117)), (1, .int (x1)), (2, .int (x2)), (3, .int (x3)), (4, .int (x4)), (5, .int (x5))] [] h (f_X3_ownBar_L40 x1 x2 x3 h n x4 x5) := by
  intro n
  induction n with
  | zero => intros; exact imp_none
  | succ n ih =>
    intro x4 x5
    rw [f_X3_ownBar_L40]
    refine r_iload C 42 5 rfl dX3_ownBar_40 rfl ?_
    refine r_aload_n C 43 0 rfl dX3_ownBar_42 rfl ?_
    refine r_getR C 46 dX3_ownBar_43 flX3_21 kt_117 rfl rf_117_0 rfl ?_
    refine r_getI C 49 dX3_ownBar_46 flX3_40 kt_7 rfl rfl ?_
    refine r_icmp_ge C 52 111 dX3_ownBar_49 (by decide) rfl (fun c_5 => ?_) (fun c_5 => ?_)
    · refine r_aload_n C 53 0 rfl dX3_ownBar_52 rfl ?_
      refine r_getR C 56 dX3_ownBar_53 flX3_25 kt_117 rfl rf_117_1 rfl ?_
      refine r_iload C 58 5 rfl dX3_ownBar_56 rfl ?_
      refine r_iload C 60 5 rfl dX3_ownBar_58 rfl ?_
      refine r_cVpI C 63 [] (ok_f_X1_apartFromPicture x5 x5 h) dX3_ownBar_60 lvX3_46 kt_81 rfl rfl rfl (by decide) (Nat.le_of_ble_eq_true rfl) rfl rfl (Nat.le_of_ble_eq_true rfl) rfl rfl (fun v_6 => ?_)
      refine r_istore C 65 [(6, .int (v_6)), (0, .ref (kad κ 117)), (1, .int (x1)), (2, .int (x2)), (3, .int (x3)), (4, .int (x4)), (5, .int (x5))] dX3_ownBar_63 (by decide) rfl rfl ?_
      refine r_aload_n C 66 1 rfl dX3_ownBar_65 rfl ?_
      refine r_getR C 69 dX3_ownBar_66 flX3_21 kt_117 rfl rf_117_0 rfl ?_
      refine r_iload C 71 6 rfl dX3_ownBar_69 rfl ?_
      refine r_cVpI C 74 [] (ok_f_X9_kindOf_7 x5 h) dX3_ownBar_71 lvX3_51 kt_7 rfl rfl rfl (by decide) (Nat.le_of_ble_eq_true rfl) rfl rfl (Nat.le_of_ble_eq_true rfl) rfl rfl (fun v_7 => ?_)
      refine r_iload_n C 75 2 rfl dX3_ownBar_74 rfl ?_
      refine imp_jn (fun (j_9 : Int32 → Option Int32) => ∀ (x4_8 : Int32), Imp κ 105 [(0, .ref (kad κ 117)), (1, .int (x1)), (2, .int (x2)), (3, .int (x3)), (4, .int (x4_8)), (5, .int (x5))] [] h (j_9 x4_8)) ?_ ?_
      · intro x4_8
        refine r_iinc C 108 5 (nI 1) [(5, .int (x5 + (nI 1))), (0, .ref (kad κ 117)), (1, .int (x1)), (2, .int (x2)), (3, .int (x3)), (4, .int (x4_8))] dX3_ownBar_105 rfl (by decide) (by decide) rfl rfl ?_
        refine r_goto C 40 dX3_ownBar_108 (by decide) ?_
        exact imp_sub [(0, .ref (kad κ 117)), (1, .int (x1)), (2, .int (x2)), (3, .int (x3)), (4, .int (x4_8)), (5, .int (x5 + (nI 1)))] [1, 2, 3, 4, 5, 0] rfl (ih (x4_8) (x5 + (nI 1)))
      · intro j_9 hj_9
        refine r_icmp_ne C 78 105 dX3_ownBar_75 (by decide) rfl (fun c_10 => ?_) (fun c_10 => ?_)
        · refine r_iload C 80 0 rfl dX3_ownBar_78 rfl ?_
          refine r_iload C 82 5 rfl dX3_ownBar_80 rfl ?_
          refine r_icmp_ge C 85 105 dX3_ownBar_82 (by decide) rfl (fun c_11 => ?_) (fun c_11 => ?_)
          · refine r_aload_n C 86 1 rfl dX3_ownBar_85 rfl ?_
            refine r_iload C 88 0 rfl dX3_ownBar_86 rfl ?_
            refine r_iload_n C 89 2 rfl dX3_ownBar_88 rfl ?_
            refine r_cVpI C 92 [] (ok_f_X3_heldBy v_6 x1 h) dX3_ownBar_89 lvX3_33 kt_117 rfl rfl rfl (by decide) (Nat.le_of_ble_eq_true rfl) rfl rfl (Nat.le_of_ble_eq_true rfl) rfl rfl (fun v_12 => ?_)
            refine r_bipush C 94 (nI 100) (by decide) dX3_ownBar_92 rfl ?_
            refine r_imul C 95 dX3_ownBar_94 rfl ?_
            refine r_iload_n C 96 3 rfl dX3_ownBar_95 rfl ?_
            refine r_iload_n C 97 4 rfl dX3_ownBar_96 rfl ?_
            refine r_imul C 98 dX3_ownBar_97 rfl ?_
            refine r_icmp_gt C 101 105 dX3_ownBar_98 (by decide) rfl (fun c_13 => ?_) (fun c_13 => ?_)
            · exact imp_sub [(0, .ref (kad κ 117)), (1, .int (x1)), (2, .int (x2)), (3, .int (x3)), (4, .int (x4)), (5, .int (x5))] [1, 2, 3, 4, 5, 6] rfl (hj_9 (x4))
            · refine r_iload C 103 0 rfl dX3_ownBar_101 rfl ?_
              refine r_istore C 105 [(4, .int (v_6)), (6, .int (v_6)), (0, .ref (kad κ 117)), (1, .int (x1)), (2, .int (x2)), (3, .int (x3)), (5, .int (x5))] dX3_ownBar_103 (by decide) rfl rfl ?_
              exact imp_sub [(0, .ref (kad κ 117)), (1, .int (x1)), (2, .int (x2)), (3, .int (x3)), (4, .int (v_6)), (5, .int (x5))] [2, 3, 4, 5, 0, 6] rfl (hj_9 (v_6))
          · exact imp_sub [(0, .ref (kad κ 117)), (1, .int (x1)), (2, .int (x2)), (3, .int (x3)), (4, .int (x4)), (5, .int (x5))] [1, 2, 3, 4, 5, 6] rfl (hj_9 (x4))
        · exact imp_sub [(0, .ref (kad κ 117)), (1, .int (x1)), (2, .int (x2)), (3, .int (x3)), (4, .int (x4)), (5, .int (x5))] [1, 2, 3, 4, 5, 6] rfl (hj_9 (x4))
    · refine r_iload C 113 4 rfl dX3_ownBar_111 rfl ?_
      exact r_iret C Rr dX3_ownBar_113 (fun _ => rfl) rfl
set_option maxHeartbeats 4000000 in
set_option maxRecDepth 100000 in
theorem imp_f_X3_ownBar {κ : Kx Int32} (C : Cx κ cX3_ownBar RX3 7 5 (40 * 5) []) (x1 : Int32) (x2 : Int32)  (h : CH) (Rr : Rt κ (some .int) (fun (x : Int32) (_ : Nat → Nat) => some (Value.int x)) (fun (_ : Int32) => h)) : Imp κ 0 [(0, .ref (kad κ 117)), (1, .int (x1)), (2, .int (x2))] [] h (f_X3_ownBar x1 x2 h) := by
  unfold f_X3_ownBar
  refine r_aload_n C 1 0 rfl dX3_ownBar_0 rfl ?_
  refine r_getR C 4 dX3_ownBar_1 flX3_21 kt_117 rfl rf_117_0 rfl ?_
  refine r_iload_n C 5 1 rfl dX3_ownBar_4 rfl ?_
  refine r_cVpI C 8 [] (ok_f_X9_countOfKind_7 x1 h) dX3_ownBar_5 lvX3_58 kt_7 rfl rfl rfl (by decide) (Nat.le_of_ble_eq_true rfl) rfl rfl (Nat.le_of_ble_eq_true rfl) rfl rfl (fun v_1 => ?_)
  refine r_istore_n C 9 3 [(3, .int (v_1)), (0, .ref (kad κ 117)), (1, .int (x1)), (2, .int (x2))] dX3_ownBar_8 rfl (by decide) rfl rfl ?_
  refine r_iload_n C 10 0 rfl dX3_ownBar_9 rfl ?_
  refine r_if_ne C 13 15 dX3_ownBar_10 (by decide) rfl (fun c_2 => ?_) (fun c_2 => ?_)
  · refine r_iconst C 14 (-1) (by decide) dX3_ownBar_13 rfl ?_
    exact r_iret C Rr dX3_ownBar_14 (fun _ => rfl) rfl
  · refine r_aload_n C 16 1 rfl dX3_ownBar_15 rfl ?_
    refine r_iconst C 17 (nI 0) (by decide) dX3_ownBar_16 rfl ?_
    refine r_iload_n C 18 2 rfl dX3_ownBar_17 rfl ?_
    refine r_cVpI C 21 [] (ok_f_X3_heldBy ((nI 0)) x1 h) dX3_ownBar_18 lvX3_33 kt_117 rfl rfl rfl (by decide) (Nat.le_of_ble_eq_true rfl) rfl rfl (Nat.le_of_ble_eq_true rfl) rfl rfl (fun v_3 => ?_)
    refine r_bipush C 23 (nI 100) (by decide) dX3_ownBar_21 rfl ?_
    refine r_imul C 24 dX3_ownBar_23 rfl ?_
    refine r_iload_n C 25 3 rfl dX3_ownBar_24 rfl ?_
    refine r_iload_n C 26 0 rfl dX3_ownBar_25 rfl ?_
    refine r_imul C 27 dX3_ownBar_26 rfl ?_
    refine r_icmp_gt C 30 32 dX3_ownBar_27 (by decide) rfl (fun c_4 => ?_) (fun c_4 => ?_)
    · refine r_sipush C 35 (nI 800) (by decide) dX3_ownBar_32 rfl ?_
      refine r_istore C 37 [(4, .int ((nI 800))), (3, .int (v_1)), (0, .ref (kad κ 117)), (1, .int (x1)), (2, .int (x2))] dX3_ownBar_35 (by decide) rfl rfl ?_
      refine r_iconst C 38 (nI 0) (by decide) dX3_ownBar_37 rfl ?_
      refine r_istore C 40 [(5, .int ((nI 0))), (4, .int ((nI 800))), (3, .int (v_1)), (0, .ref (kad κ 117)), (1, .int (x1)), (2, .int (x2))] dX3_ownBar_38 (by decide) rfl rfl ?_
      refine imp_sub [(0, .ref (kad κ 117)), (1, .int (x1)), (2, .int (x2)), (3, .int (v_1)), (4, .int ((nI 800))), (5, .int ((nI 0)))] [3, 4, 5, 2, 1, 0] rfl ?_
      refine imp_f_X3_ownBar_L40 C (x1) (x2) (v_1) h Rr FU ((nI 800)) ((nI 0))
    · refine r_iconst C 31 (nI 0) (by decide) dX3_ownBar_30 rfl ?_
      exact r_iret C Rr dX3_ownBar_31 (fun _ => rfl) rfl
set_option maxHeartbeats 4000000 in
theorem ok_f_X3_ownBar (x1 : Int32) (x2 : Int32)  (h : CH) : ∀ q, f_X3_ownBar x1 x2 h = some q → MG yX3_ownBar cX3_ownBar 7 (some .int) [] 5 (fun ad => [.ref (ad 117), .int x1, .int x2]) h ((fun (x : Int32) (_ : Nat → Nat) => some (Value.int x)) q) ((fun (_ : Int32) => h) q) := mg_of RX3 (by decide) rfl (fun _ => Nat.le_of_ble_eq_true rfl) (fun κ C Rr => imp_f_X3_ownBar C x1 x2 h Rr)
set_option maxHeartbeats 4000000 in
set_option maxRecDepth 100000 in
theorem imp_f_X3_falseByOwnBars_L2 {κ : Kx (Int32 × CH)} (C : Cx κ cX3_falseByOwnBars RX3 3 6 (40 * 6) []) (x1 : Int32)    (Rr : Rt κ (some .int) (fun (q : Int32 × CH) (_ : Nat → Nat) => some (Value.int q.1)) (fun (q : (Int32 × CH)) => q.2)) : ∀ (n : Nat) (x2 : Int32) (h : CH), Imp κ 2 [(0, .ref (kad κ 117)), (1, .int (x1)), (2, .int (x2))] [] h (f_X3_falseByOwnBars_L2 x1 n x2 h) := by
  intro n
  induction n with
  | zero => intros; exact imp_none
  | succ n ih =>
    intro x2 h
    rw [f_X3_falseByOwnBars_L2]
    refine r_iload_n C 3 2 rfl dX3_falseByOwnBars_2 rfl ?_
    refine r_iconst C 4 (nI 4) (by decide) dX3_falseByOwnBars_3 rfl ?_
    refine r_icmp_ge C 7 25 dX3_falseByOwnBars_4 (by decide) rfl (fun c_1 => ?_) (fun c_1 => ?_)
    · refine r_aload_n C 8 0 rfl dX3_falseByOwnBars_7 rfl ?_
      refine r_getR C 11 dX3_falseByOwnBars_8 flX3_9 kt_117 rfl rf_117_2 rfl ?_
      refine r_iload_n C 12 2 rfl dX3_falseByOwnBars_11 rfl ?_
      refine r_aload_n C 13 0 rfl dX3_falseByOwnBars_12 rfl ?_
      refine r_iload_n C 14 2 rfl dX3_falseByOwnBars_13 rfl ?_
      refine r_iload_n C 15 1 rfl dX3_falseByOwnBars_14 rfl ?_
      refine r_cVpI C 18 [.int (x2), .ref (kad κ 118)] (ok_f_X3_ownBar x2 x1 h) dX3_falseByOwnBars_15 lvX3_61 kt_117 rfl rfl rfl (by decide) (Nat.le_of_ble_eq_true rfl) rfl rfl (Nat.le_of_ble_eq_true rfl) rfl rfl (fun v_2 => ?_)
      refine r_iast C 19 dX3_falseByOwnBars_18 kt_118 rfl rfl (fun h_3 => ?_)
      refine r_iinc C 22 2 (nI 1) [(2, .int (x2 + (nI 1))), (0, .ref (kad κ 117)), (1, .int (x1))] dX3_falseByOwnBars_19 rfl (by decide) (by decide) rfl rfl ?_
      refine r_goto C 2 dX3_falseByOwnBars_22 (by decide) ?_
      exact imp_sub [(0, .ref (kad κ 117)), (1, .int (x1)), (2, .int (x2 + (nI 1)))] [1, 2, 0] rfl (ih (x2 + (nI 1)) h_3)
    · refine r_aload_n C 26 0 rfl dX3_falseByOwnBars_25 rfl ?_
      refine r_cVpI C 29 [] (ok_f_X3_falseByBars h) dX3_falseByOwnBars_26 lvX3_29 kt_117 rfl rfl rfl (by decide) (Nat.le_of_ble_eq_true rfl) rfl rfl (Nat.le_of_ble_eq_true rfl) rfl rfl (fun v_4 => ?_)
      exact r_iret C Rr dX3_falseByOwnBars_29 (fun _ => rfl) rfl
set_option maxHeartbeats 4000000 in
set_option maxRecDepth 100000 in
theorem imp_f_X3_falseByOwnBars {κ : Kx (Int32 × CH)} (C : Cx κ cX3_falseByOwnBars RX3 3 6 (40 * 6) []) (x1 : Int32)  (h : CH) (Rr : Rt κ (some .int) (fun (q : Int32 × CH) (_ : Nat → Nat) => some (Value.int q.1)) (fun (q : (Int32 × CH)) => q.2)) : Imp κ 0 [(0, .ref (kad κ 117)), (1, .int (x1))] [] h (f_X3_falseByOwnBars x1 h) := by
  unfold f_X3_falseByOwnBars
  refine r_iconst C 1 (nI 0) (by decide) dX3_falseByOwnBars_0 rfl ?_
  refine r_istore_n C 2 2 [(2, .int ((nI 0))), (0, .ref (kad κ 117)), (1, .int (x1))] dX3_falseByOwnBars_1 rfl (by decide) rfl rfl ?_
  refine imp_sub [(0, .ref (kad κ 117)), (1, .int (x1)), (2, .int ((nI 0)))] [1, 2, 0] rfl ?_
  refine imp_f_X3_falseByOwnBars_L2 C (x1) Rr FU ((nI 0)) h
set_option maxHeartbeats 4000000 in
theorem ok_f_X3_falseByOwnBars (x1 : Int32)  (h : CH) : ∀ q, f_X3_falseByOwnBars x1 h = some q → MG yX3_falseByOwnBars cX3_falseByOwnBars 3 (some .int) [] 6 (fun ad => [.ref (ad 117), .int x1]) h ((fun (q : Int32 × CH) (_ : Nat → Nat) => some (Value.int q.1)) q) ((fun (q : (Int32 × CH)) => q.2) q) := mg_of RX3 (by decide) rfl (fun _ => Nat.le_of_ble_eq_true rfl) (fun κ C Rr => imp_f_X3_falseByOwnBars C x1 h Rr)
set_option maxHeartbeats 4000000 in
set_option maxRecDepth 100000 in
theorem imp_f_X11_fair {κ : Kx (Int32 × CH)} (C : Cx κ cX11_fair RX11 5 7 (40 * 7) []) (x1 : Int32) (x2 : Int32) (x3 : Int32) (x4 : Int32)  (h : CH) (Rr : Rt κ (some .int) (fun (q : Int32 × CH) (_ : Nat → Nat) => some (Value.int q.1)) (fun (q : (Int32 × CH)) => q.2)) : Imp κ 0 [(0, .ref (kad κ 0)), (1, .int (x1)), (2, .int (x2)), (3, .int (x3)), (4, .int (x4))] [] h (f_X11_fair x1 x2 x3 x4 h) := by
  unfold f_X11_fair
  refine r_iload_n C 1 1 rfl dX11_fair_0 rfl ?_
  refine r_if_lt C 4 29 dX11_fair_1 (by decide) rfl (fun c_1 => ?_) (fun c_1 => ?_)
  · refine r_iconst C 30 (-1) (by decide) dX11_fair_29 rfl ?_
    exact r_iret C Rr dX11_fair_30 (fun _ => rfl) rfl
  · refine r_iload_n C 5 1 rfl dX11_fair_4 rfl ?_
    refine r_bipush C 7 (nI 100) (by decide) dX11_fair_5 rfl ?_
    refine r_icmp_gt C 10 29 dX11_fair_7 (by decide) rfl (fun c_2 => ?_) (fun c_2 => ?_)
    · refine r_iconst C 30 (-1) (by decide) dX11_fair_29 rfl ?_
      exact r_iret C Rr dX11_fair_30 (fun _ => rfl) rfl
    · refine r_iload_n C 11 2 rfl dX11_fair_10 rfl ?_
      refine r_iload_n C 12 3 rfl dX11_fair_11 rfl ?_
      refine r_cSpI C 15 [] (ok_f_X11_isWhen x2 x3 h) dX11_fair_12 lsX11_177 rfl (by decide) (Nat.le_of_ble_eq_true rfl) rfl rfl (Nat.le_of_ble_eq_true rfl) rfl rfl (fun v_3 => ?_)
      refine r_if_eq C 18 29 dX11_fair_15 (by decide) rfl (fun c_4 => ?_) (fun c_4 => ?_)
      · refine r_iconst C 30 (-1) (by decide) dX11_fair_29 rfl ?_
        exact r_iret C Rr dX11_fair_30 (fun _ => rfl) rfl
      · refine r_iload C 20 4 rfl dX11_fair_18 rfl ?_
        refine r_if_lt C 23 29 dX11_fair_20 (by decide) rfl (fun c_5 => ?_) (fun c_5 => ?_)
        · refine r_iconst C 30 (-1) (by decide) dX11_fair_29 rfl ?_
          exact r_iret C Rr dX11_fair_30 (fun _ => rfl) rfl
        · refine r_iload C 25 4 rfl dX11_fair_23 rfl ?_
          refine r_iconst C 26 (nI 4) (by decide) dX11_fair_25 rfl ?_
          refine r_icmp_le C 29 31 dX11_fair_26 (by decide) rfl (fun c_6 => ?_) (fun c_6 => ?_)
          · refine r_iconst C 30 (-1) (by decide) dX11_fair_29 rfl ?_
            exact r_iret C Rr dX11_fair_30 (fun _ => rfl) rfl
          · refine r_aload_n C 32 0 rfl dX11_fair_31 rfl ?_
            refine r_getR C 35 dX11_fair_32 flX11_75 kt_0 rfl rf_0_12 rfl ?_
            refine r_iload_n C 36 2 rfl dX11_fair_35 rfl ?_
            refine r_iload_n C 37 3 rfl dX11_fair_36 rfl ?_
            refine r_cViV C 40 [] (ok_f_X1_open x2 x3 h) dX11_fair_37 lvX11_181 kt_81 rfl rfl rfl (by decide) (Nat.le_of_ble_eq_true rfl) rfl rfl (Nat.le_of_ble_eq_true rfl) rfl rfl (fun _ h_7 => ?_)
            refine r_iload C 42 4 rfl dX11_fair_40 rfl ?_
            refine r_iconst C 43 (nI 4) (by decide) dX11_fair_42 rfl ?_
            refine r_icmp_ge C 46 59 dX11_fair_43 (by decide) rfl (fun c_8 => ?_) (fun c_8 => ?_)
            · refine r_aload_n C 47 0 rfl dX11_fair_46 rfl ?_
              refine r_getR C 50 dX11_fair_47 flX11_84 kt_0 rfl rf_0_13 rfl ?_
              refine r_iload C 52 4 rfl dX11_fair_50 rfl ?_
              refine r_iload_n C 53 1 rfl dX11_fair_52 rfl ?_
              refine r_cVpI C 56 [] (ok_f_X3_ownBar x4 x1 h_7) dX11_fair_53 lvX11_300 kt_117 rfl rfl rfl (by decide) (Nat.le_of_ble_eq_true rfl) rfl rfl (Nat.le_of_ble_eq_true rfl) rfl rfl (fun v_9 => ?_)
              refine r_goto C 67 dX11_fair_56 (by decide) ?_
              exact r_iret C Rr dX11_fair_67 (fun _ => rfl) rfl
            · refine r_aload_n C 60 0 rfl dX11_fair_59 rfl ?_
              refine r_getR C 63 dX11_fair_60 flX11_84 kt_0 rfl rf_0_13 rfl ?_
              refine r_iload_n C 64 1 rfl dX11_fair_63 rfl ?_
              refine r_cViI C 67 [] (ok_f_X3_falseByOwnBars x1 h_7) dX11_fair_64 lvX11_303 kt_117 rfl rfl rfl (by decide) (Nat.le_of_ble_eq_true rfl) rfl rfl (Nat.le_of_ble_eq_true rfl) rfl rfl (fun v_10 h_11 => ?_)
              exact r_iret C Rr dX11_fair_67 (fun _ => rfl) rfl
set_option maxHeartbeats 4000000 in
theorem ok_f_X11_fair (x1 : Int32) (x2 : Int32) (x3 : Int32) (x4 : Int32)  (h : CH) : ∀ q, f_X11_fair x1 x2 x3 x4 h = some q → MG yX11_fair cX11_fair 5 (some .int) [] 7 (fun ad => [.ref (ad 0), .int x1, .int x2, .int x3, .int x4]) h ((fun (q : Int32 × CH) (_ : Nat → Nat) => some (Value.int q.1)) q) ((fun (q : (Int32 × CH)) => q.2) q) := mg_of RX11 (by decide) rfl (fun _ => Nat.le_of_ble_eq_true rfl) (fun κ C Rr => imp_f_X11_fair C x1 x2 x3 x4 h Rr)
set_option maxHeartbeats 4000000 in
set_option maxRecDepth 100000 in
theorem imp_f_X9_leastBetween_7_L24 {κ : Kx Int32} (C : Cx κ cX9_leastBetween RX9 7 3 (40 * 3) []) (x1 : Int32) (x2 : Int32) (x4 : Int32) (h : CH)  (k112 : Int32 → Option Int32) (hk112 : ∀ (x3_3 : Int32), Imp κ 112 [(0, .ref (kad κ 7)), (1, .int (x1)), (2, .int (x2)), (3, .int (x3_3)), (4, .int (x4))] [] h (k112 x3_3)) (Rr : Rt κ (some .int) (fun (x : Int32) (_ : Nat → Nat) => some (Value.int x)) (fun (_ : Int32) => h)) : ∀ (n : Nat) (x3 : Int32) (x5 : Int32), Imp κ 24 [(0, .ref (kad κ 7)), (1, .int (x1)), (2, .int (x2)), (3, .int (x3)), (4, .int (x4)), (5, .int (x5))] [] h (f_X9_leastBetween_7_L24 x1 x2 x4 h k112 n x3 x5) := by
  intro n
  induction n with
  | zero => intros; exact imp_none
  | succ n ih =>
    intro x3 x5
    rw [f_X9_leastBetween_7_L24]
    refine r_iload C 26 5 rfl dX9_leastBetween_24 rfl ?_
    refine r_aload_n C 27 0 rfl dX9_leastBetween_26 rfl ?_
    refine r_getI C 30 dX9_leastBetween_27 flX9_18 kt_7 rfl rfl ?_
    refine r_icmp_ge C 33 112 dX9_leastBetween_30 (by decide) rfl (fun c_4 => ?_) (fun c_4 => ?_)
    · refine r_iload C 35 5 rfl dX9_leastBetween_33 rfl ?_
      refine r_bipush C 37 (nI 16) (by decide) dX9_leastBetween_35 rfl ?_
      refine r_icmp_ge C 40 112 dX9_leastBetween_37 (by decide) rfl (fun c_5 => ?_) (fun c_5 => ?_)
      · refine r_iload C 42 4 rfl dX9_leastBetween_40 rfl ?_
        refine r_iload C 44 5 rfl dX9_leastBetween_42 rfl ?_
        refine imp_jn (fun (j_7 : Int32 → Option Int32) => ∀ (x3_6 : Int32), Imp κ 106 [(0, .ref (kad κ 7)), (1, .int (x1)), (2, .int (x2)), (3, .int (x3_6)), (4, .int (x4)), (5, .int (x5))] [] h (j_7 x3_6)) ?_ ?_
        · intro x3_6
          refine r_iinc C 109 5 (nI 1) [(5, .int (x5 + (nI 1))), (0, .ref (kad κ 7)), (1, .int (x1)), (2, .int (x2)), (3, .int (x3_6)), (4, .int (x4))] dX9_leastBetween_106 rfl (by decide) (by decide) rfl rfl ?_
          refine r_goto C 24 dX9_leastBetween_109 (by decide) ?_
          exact imp_sub [(0, .ref (kad κ 7)), (1, .int (x1)), (2, .int (x2)), (3, .int (x3_6)), (4, .int (x4)), (5, .int (x5 + (nI 1)))] [1, 2, 3, 4, 5, 0] rfl (ih (x3_6) (x5 + (nI 1)))
        · intro j_7 hj_7
          refine r_icmp_eq C 47 106 dX9_leastBetween_44 (by decide) rfl (fun c_8 => ?_) (fun c_8 => ?_)
          · exact imp_sub [(0, .ref (kad κ 7)), (1, .int (x1)), (2, .int (x2)), (3, .int (x3)), (4, .int (x4)), (5, .int (x5))] [0, 1, 2, 3, 4, 5] rfl (hj_7 (x3))
          · refine r_aload_n C 48 0 rfl dX9_leastBetween_47 rfl ?_
            refine r_getR C 51 dX9_leastBetween_48 flX9_28 kt_7 rfl rf_7_5 rfl ?_
            refine r_iload C 53 4 rfl dX9_leastBetween_51 rfl ?_
            refine r_iald C 54 dX9_leastBetween_53 kt_9 rfl rfl (fun v_9 => ?_)
            refine r_iload_n C 55 1 rfl dX9_leastBetween_54 rfl ?_
            refine r_icmp_ne C 58 106 dX9_leastBetween_55 (by decide) rfl (fun c_10 => ?_) (fun c_10 => ?_)
            · refine r_aload_n C 59 0 rfl dX9_leastBetween_58 rfl ?_
              refine r_getR C 62 dX9_leastBetween_59 flX9_28 kt_7 rfl rf_7_5 rfl ?_
              refine r_iload C 64 5 rfl dX9_leastBetween_62 rfl ?_
              refine r_iald C 65 dX9_leastBetween_64 kt_9 rfl rfl (fun v_11 => ?_)
              refine r_iload_n C 66 2 rfl dX9_leastBetween_65 rfl ?_
              refine r_icmp_ne C 69 106 dX9_leastBetween_66 (by decide) rfl (fun c_12 => ?_) (fun c_12 => ?_)
              · refine r_aload_n C 70 0 rfl dX9_leastBetween_69 rfl ?_
                refine r_aload_n C 71 0 rfl dX9_leastBetween_70 rfl ?_
                refine r_getR C 74 dX9_leastBetween_71 flX9_37 kt_7 rfl rf_7_7 rfl ?_
                refine r_iload C 76 4 rfl dX9_leastBetween_74 rfl ?_
                refine r_aald C 77 dX9_leastBetween_76 kt_11 rfl rq_11 kq_11 rfl (fun q_13 hq_13 => ?_)
                refine r_aload_n C 78 0 rfl dX9_leastBetween_77 rfl ?_
                refine r_getR C 81 dX9_leastBetween_78 flX9_37 kt_7 rfl rf_7_7 rfl ?_
                refine r_iload C 83 5 rfl dX9_leastBetween_81 rfl ?_
                refine r_aald C 84 dX9_leastBetween_83 kt_11 rfl rq_11 kq_11 rfl (fun q_14 hq_14 => ?_)
                refine r_cVpI C 87 [] (ok_f_X9_apart_7 q_13 q_14 hq_13 hq_14 h) dX9_leastBetween_84 lvX9_82 kt_7 rfl rfl rfl (by decide) (Nat.le_of_ble_eq_true rfl) rfl rfl (Nat.le_of_ble_eq_true rfl) rfl rfl (fun v_15 => ?_)
                refine r_istore C 89 [(6, .int (v_15)), (0, .ref (kad κ 7)), (1, .int (x1)), (2, .int (x2)), (3, .int (x3)), (4, .int (x4)), (5, .int (x5))] dX9_leastBetween_87 (by decide) rfl rfl ?_
                refine r_iload_n C 90 4 rfl dX9_leastBetween_89 rfl ?_
                refine r_iconst C 91 (-1) (by decide) dX9_leastBetween_90 rfl ?_
                refine imp_jn (fun (j_17 : Int32 → Option Int32) => ∀ (s_16 : Int32), Imp κ 105 [(0, .ref (kad κ 7)), (1, .int (x1)), (2, .int (x2)), (4, .int (x4)), (5, .int (x5))] [.int (s_16)] h (j_17 s_16)) ?_ ?_
                · intro s_16
                  refine r_istore_n C 106 3 [(3, .int (s_16)), (0, .ref (kad κ 7)), (1, .int (x1)), (2, .int (x2)), (4, .int (x4)), (5, .int (x5))] dX9_leastBetween_105 rfl (by decide) rfl rfl ?_
                  exact imp_sub [(0, .ref (kad κ 7)), (1, .int (x1)), (2, .int (x2)), (3, .int (s_16)), (4, .int (x4)), (5, .int (x5))] [1, 2, 3, 0, 4, 5] rfl (hj_7 (s_16))
                · intro j_17 hj_17
                  refine r_icmp_ne C 94 99 dX9_leastBetween_91 (by decide) rfl (fun c_18 => ?_) (fun c_18 => ?_)
                  · refine r_iload C 96 0 rfl dX9_leastBetween_94 rfl ?_
                    refine r_goto C 105 dX9_leastBetween_96 (by decide) ?_
                    exact imp_sub [(0, .ref (kad κ 7)), (1, .int (x1)), (2, .int (x2)), (4, .int (x4)), (5, .int (x5))] [1, 2, 3, 5, 6] rfl (hj_17 (v_15))
                  · refine r_iload_n C 100 4 rfl dX9_leastBetween_99 rfl ?_
                    refine r_iload C 102 0 rfl dX9_leastBetween_100 rfl ?_
                    refine r_mmin C 105 dX9_leastBetween_102 lmX9_67 (Nat.le_of_ble_eq_true rfl) (by decide) rfl ?_
                    exact imp_sub [(0, .ref (kad κ 7)), (1, .int (x1)), (2, .int (x2)), (4, .int (x4)), (5, .int (x5))] [1, 2, 3, 5, 6] rfl (hj_17 (mn (x3) (v_15)))
              · exact imp_sub [(0, .ref (kad κ 7)), (1, .int (x1)), (2, .int (x2)), (3, .int (x3)), (4, .int (x4)), (5, .int (x5))] [0, 1, 2, 3, 4, 5] rfl (hj_7 (x3))
            · exact imp_sub [(0, .ref (kad κ 7)), (1, .int (x1)), (2, .int (x2)), (3, .int (x3)), (4, .int (x4)), (5, .int (x5))] [0, 1, 2, 3, 4, 5] rfl (hj_7 (x3))
      · exact imp_sub [(0, .ref (kad κ 7)), (1, .int (x1)), (2, .int (x2)), (3, .int (x3)), (4, .int (x4))] [0, 1, 2, 3, 4] rfl (hk112 (x3))
    · exact imp_sub [(0, .ref (kad κ 7)), (1, .int (x1)), (2, .int (x2)), (3, .int (x3)), (4, .int (x4))] [0, 1, 2, 3, 4] rfl (hk112 (x3))
set_option maxHeartbeats 4000000 in
set_option maxRecDepth 100000 in
theorem imp_f_X9_leastBetween_7_L5 {κ : Kx Int32} (C : Cx κ cX9_leastBetween RX9 7 3 (40 * 3) []) (x1 : Int32) (x2 : Int32) (h : CH)    (Rr : Rt κ (some .int) (fun (x : Int32) (_ : Nat → Nat) => some (Value.int x)) (fun (_ : Int32) => h)) : ∀ (n : Nat) (x3 : Int32) (x4 : Int32), Imp κ 5 [(0, .ref (kad κ 7)), (1, .int (x1)), (2, .int (x2)), (3, .int (x3)), (4, .int (x4))] [] h (f_X9_leastBetween_7_L5 x1 x2 h n x3 x4) := by
  intro n
  induction n with
  | zero => intros; exact imp_none
  | succ n ih =>
    intro x3 x4
    rw [f_X9_leastBetween_7_L5]
    refine r_iload C 7 4 rfl dX9_leastBetween_5 rfl ?_
    refine r_aload_n C 8 0 rfl dX9_leastBetween_7 rfl ?_
    refine r_getI C 11 dX9_leastBetween_8 flX9_18 kt_7 rfl rfl ?_
    refine r_icmp_ge C 14 118 dX9_leastBetween_11 (by decide) rfl (fun c_1 => ?_) (fun c_1 => ?_)
    · refine r_iload C 16 4 rfl dX9_leastBetween_14 rfl ?_
      refine r_bipush C 18 (nI 16) (by decide) dX9_leastBetween_16 rfl ?_
      refine r_icmp_ge C 21 118 dX9_leastBetween_18 (by decide) rfl (fun c_2 => ?_) (fun c_2 => ?_)
      · refine r_iconst C 22 (nI 0) (by decide) dX9_leastBetween_21 rfl ?_
        refine r_istore C 24 [(5, .int ((nI 0))), (0, .ref (kad κ 7)), (1, .int (x1)), (2, .int (x2)), (3, .int (x3)), (4, .int (x4))] dX9_leastBetween_22 (by decide) rfl rfl ?_
        refine imp_sub [(0, .ref (kad κ 7)), (1, .int (x1)), (2, .int (x2)), (3, .int (x3)), (4, .int (x4)), (5, .int ((nI 0)))] [1, 2, 3, 4, 5, 0] rfl ?_
        refine imp_f_X9_leastBetween_7_L24 C (x1) (x2) (x4) h _ ?_ Rr FU (x3) ((nI 0))
        · intro x3_3
          refine r_iinc C 115 4 (nI 1) [(4, .int (x4 + (nI 1))), (0, .ref (kad κ 7)), (1, .int (x1)), (2, .int (x2)), (3, .int (x3_3))] dX9_leastBetween_112 rfl (by decide) (by decide) rfl rfl ?_
          refine r_goto C 5 dX9_leastBetween_115 (by decide) ?_
          exact imp_sub [(0, .ref (kad κ 7)), (1, .int (x1)), (2, .int (x2)), (3, .int (x3_3)), (4, .int (x4 + (nI 1)))] [1, 2, 3, 4, 0] rfl (ih (x3_3) (x4 + (nI 1)))
      · refine r_iload_n C 119 3 rfl dX9_leastBetween_118 rfl ?_
        exact r_iret C Rr dX9_leastBetween_119 (fun _ => rfl) rfl
    · refine r_iload_n C 119 3 rfl dX9_leastBetween_118 rfl ?_
      exact r_iret C Rr dX9_leastBetween_119 (fun _ => rfl) rfl
set_option maxHeartbeats 4000000 in
set_option maxRecDepth 100000 in
theorem imp_f_X9_leastBetween_7 {κ : Kx Int32} (C : Cx κ cX9_leastBetween RX9 7 3 (40 * 3) []) (x1 : Int32) (x2 : Int32)  (h : CH) (Rr : Rt κ (some .int) (fun (x : Int32) (_ : Nat → Nat) => some (Value.int x)) (fun (_ : Int32) => h)) : Imp κ 0 [(0, .ref (kad κ 7)), (1, .int (x1)), (2, .int (x2))] [] h (f_X9_leastBetween_7 x1 x2 h) := by
  unfold f_X9_leastBetween_7
  refine r_iconst C 1 (-1) (by decide) dX9_leastBetween_0 rfl ?_
  refine r_istore_n C 2 3 [(3, .int ((-1))), (0, .ref (kad κ 7)), (1, .int (x1)), (2, .int (x2))] dX9_leastBetween_1 rfl (by decide) rfl rfl ?_
  refine r_iconst C 3 (nI 0) (by decide) dX9_leastBetween_2 rfl ?_
  refine r_istore C 5 [(4, .int ((nI 0))), (3, .int ((-1))), (0, .ref (kad κ 7)), (1, .int (x1)), (2, .int (x2))] dX9_leastBetween_3 (by decide) rfl rfl ?_
  refine imp_sub [(0, .ref (kad κ 7)), (1, .int (x1)), (2, .int (x2)), (3, .int ((-1))), (4, .int ((nI 0)))] [2, 3, 4, 1, 0] rfl ?_
  refine imp_f_X9_leastBetween_7_L5 C (x1) (x2) h Rr FU ((-1)) ((nI 0))
set_option maxHeartbeats 4000000 in
theorem ok_f_X9_leastBetween_7 (x1 : Int32) (x2 : Int32)  (h : CH) : ∀ q, f_X9_leastBetween_7 x1 x2 h = some q → MG yX9_leastBetween cX9_leastBetween 7 (some .int) [] 3 (fun ad => [.ref (ad 7), .int x1, .int x2]) h ((fun (x : Int32) (_ : Nat → Nat) => some (Value.int x)) q) ((fun (_ : Int32) => h) q) := mg_of RX9 (by decide) rfl (fun _ => Nat.le_of_ble_eq_true rfl) (fun κ C Rr => imp_f_X9_leastBetween_7 C x1 x2 h Rr)
set_option maxHeartbeats 4000000 in
set_option maxRecDepth 100000 in
theorem imp_f_X11_measure {κ : Kx Int32} (C : Cx κ cX11_measure RX11 3 4 (40 * 4) []) (x1 : Int32) (x2 : Int32)  (h : CH) (Rr : Rt κ (some .int) (fun (x : Int32) (_ : Nat → Nat) => some (Value.int x)) (fun (_ : Int32) => h)) : Imp κ 0 [(0, .ref (kad κ 0)), (1, .int (x1)), (2, .int (x2))] [] h (f_X11_measure x1 x2 h) := by
  unfold f_X11_measure
  refine r_iload_n C 1 1 rfl dX11_measure_0 rfl ?_
  refine r_if_lt C 4 18 dX11_measure_1 (by decide) rfl (fun c_1 => ?_) (fun c_1 => ?_)
  · refine r_iconst C 19 (-1) (by decide) dX11_measure_18 rfl ?_
    exact r_iret C Rr dX11_measure_19 (fun _ => rfl) rfl
  · refine r_iload_n C 5 1 rfl dX11_measure_4 rfl ?_
    refine r_iconst C 6 (nI 4) (by decide) dX11_measure_5 rfl ?_
    refine r_icmp_ge C 9 18 dX11_measure_6 (by decide) rfl (fun c_2 => ?_) (fun c_2 => ?_)
    · refine r_iload_n C 10 2 rfl dX11_measure_9 rfl ?_
      refine r_if_lt C 13 18 dX11_measure_10 (by decide) rfl (fun c_3 => ?_) (fun c_3 => ?_)
      · refine r_iconst C 19 (-1) (by decide) dX11_measure_18 rfl ?_
        exact r_iret C Rr dX11_measure_19 (fun _ => rfl) rfl
      · refine r_iload_n C 14 2 rfl dX11_measure_13 rfl ?_
        refine r_iconst C 15 (nI 4) (by decide) dX11_measure_14 rfl ?_
        refine r_icmp_lt C 18 20 dX11_measure_15 (by decide) rfl (fun c_4 => ?_) (fun c_4 => ?_)
        · refine r_aload_n C 21 0 rfl dX11_measure_20 rfl ?_
          refine r_getR C 24 dX11_measure_21 flX11_35 kt_0 rfl rf_0_5 rfl ?_
          refine r_iload_n C 25 1 rfl dX11_measure_24 rfl ?_
          refine r_iload_n C 26 2 rfl dX11_measure_25 rfl ?_
          refine r_cVpI C 29 [] (ok_f_X9_leastBetween_7 x1 x2 h) dX11_measure_26 lvX11_306 kt_7 rfl rfl rfl (by decide) (Nat.le_of_ble_eq_true rfl) rfl rfl (Nat.le_of_ble_eq_true rfl) rfl rfl (fun v_5 => ?_)
          exact r_iret C Rr dX11_measure_29 (fun _ => rfl) rfl
        · refine r_iconst C 19 (-1) (by decide) dX11_measure_18 rfl ?_
          exact r_iret C Rr dX11_measure_19 (fun _ => rfl) rfl
    · refine r_iconst C 19 (-1) (by decide) dX11_measure_18 rfl ?_
      exact r_iret C Rr dX11_measure_19 (fun _ => rfl) rfl
set_option maxHeartbeats 4000000 in
theorem ok_f_X11_measure (x1 : Int32) (x2 : Int32)  (h : CH) : ∀ q, f_X11_measure x1 x2 h = some q → MG yX11_measure cX11_measure 3 (some .int) [] 4 (fun ad => [.ref (ad 0), .int x1, .int x2]) h ((fun (x : Int32) (_ : Nat → Nat) => some (Value.int x)) q) ((fun (_ : Int32) => h) q) := mg_of RX11 (by decide) rfl (fun _ => Nat.le_of_ble_eq_true rfl) (fun κ C Rr => imp_f_X11_measure C x1 x2 h Rr)
set_option maxHeartbeats 4000000 in
set_option maxRecDepth 100000 in
theorem imp_f_X11_boxAt {κ : Kx (Option Nat)} (C : Cx κ cX11_boxAt RX11 2 1 (40 * 1) []) (x1 : Int32)  (h : CH) (Rr : Rt κ (some (.object "TwoFaces$Papers")) (fun (r : Option Nat) (ad : Nat → Nat) => some (va_rf (Option.map ad r))) (fun (_ : (Option Nat)) => h)) : Imp κ 0 [(0, .ref (kad κ 0)), (1, .int (x1))] [] h (f_X11_boxAt x1 h) := by
  unfold f_X11_boxAt
  refine r_iload_n C 1 1 rfl dX11_boxAt_0 rfl ?_
  refine imp_jn (fun (j_1 : Option (Option Nat)) =>  Imp κ 18 [] [] h (j_1)) ?_ ?_
  · refine r_null C 19 dX11_boxAt_18 rfl ?_
    exact r_aret C Rr (Or.inl ⟨_, rfl⟩) (Or.inl rfl) dX11_boxAt_19 rfl rfl
  · intro j_1 hj_1
    refine r_if_lt C 4 18 dX11_boxAt_1 (by decide) rfl (fun c_2 => ?_) (fun c_2 => ?_)
    · exact imp_sub [] [] rfl (hj_1)
    · refine r_iload_n C 5 1 rfl dX11_boxAt_4 rfl ?_
      refine r_iconst C 6 (nI 3) (by decide) dX11_boxAt_5 rfl ?_
      refine r_icmp_ge C 9 18 dX11_boxAt_6 (by decide) rfl (fun c_3 => ?_) (fun c_3 => ?_)
      · refine r_aload_n C 10 0 rfl dX11_boxAt_9 rfl ?_
        refine r_getR C 13 dX11_boxAt_10 flX11_59 kt_0 rfl rf_0_10 rfl ?_
        refine r_iload_n C 14 1 rfl dX11_boxAt_13 rfl ?_
        refine r_aaldO C 15 dX11_boxAt_14 kt_78 rfl rfl (fun r_4 => ?_)
        refine r_goto C 19 dX11_boxAt_15 (by decide) ?_
        exact r_aret C Rr (Or.inl ⟨_, rfl⟩) (rf_or _) dX11_boxAt_19 rfl rfl
      · exact imp_sub [] [] rfl (hj_1)
set_option maxHeartbeats 4000000 in
theorem ok_f_X11_boxAt (x1 : Int32)  (h : CH) : ∀ q, f_X11_boxAt x1 h = some q → MG yX11_boxAt cX11_boxAt 2 (some (.object "TwoFaces$Papers")) [] 1 (fun ad => [.ref (ad 0), .int x1]) h ((fun (r : Option Nat) (ad : Nat → Nat) => some (va_rf (Option.map ad r))) q) ((fun (_ : (Option Nat)) => h) q) := mg_of RX11 (by decide) rfl (fun _ => Nat.le_of_ble_eq_true rfl) (fun κ C Rr => imp_f_X11_boxAt C x1 h Rr)
set_option maxHeartbeats 4000000 in
set_option maxRecDepth 100000 in
theorem imp_f_X2_copyFrom_130_71_L18 {κ : Kx (Unit × CH)} (C : Cx κ cX2_copyFrom RX2 3 1 (40 * 1) [])     (Rr : Rt κ none (fun (_ : Unit × CH) (_ : Nat → Nat) => (none : Option Value)) (fun (q : (Unit × CH)) => q.2)) : ∀ (n : Nat) (x2 : Int32) (h : CH), Imp κ 18 [(0, .ref (kad κ 130)), (1, .ref (kad κ 71)), (2, .int (x2))] [] h (f_X2_copyFrom_130_71_L18 n x2 h) := by
  intro n
  induction n with
  | zero => intros; exact imp_none
  | succ n ih =>
    intro x2 h
    rw [f_X2_copyFrom_130_71_L18]
    refine r_iload_n C 19 2 rfl dX2_copyFrom_18 rfl ?_
    refine r_aload_n C 20 0 rfl dX2_copyFrom_19 rfl ?_
    refine r_getI C 23 dX2_copyFrom_20 flX2_9 kt_130 rfl rfl ?_
    refine r_icmp_ge C 26 110 dX2_copyFrom_23 (by decide) rfl (fun c_3 => ?_) (fun c_3 => ?_)
    · refine r_iload_n C 27 2 rfl dX2_copyFrom_26 rfl ?_
      refine r_bipush C 29 (nI 40) (by decide) dX2_copyFrom_27 rfl ?_
      refine r_icmp_ge C 32 110 dX2_copyFrom_29 (by decide) rfl (fun c_4 => ?_) (fun c_4 => ?_)
      · refine r_aload_n C 33 0 rfl dX2_copyFrom_32 rfl ?_
        refine r_getR C 36 dX2_copyFrom_33 flX2_22 kt_130 rfl rf_130_3 rfl ?_
        refine r_iload_n C 37 2 rfl dX2_copyFrom_36 rfl ?_
        refine r_aload_n C 38 1 rfl dX2_copyFrom_37 rfl ?_
        refine r_getR C 41 dX2_copyFrom_38 flX2_22 kt_71 rfl rf_71_3 rfl ?_
        refine r_iload_n C 42 2 rfl dX2_copyFrom_41 rfl ?_
        refine r_iald C 43 dX2_copyFrom_42 kt_72 rfl rfl (fun v_5 => ?_)
        refine r_iast C 44 dX2_copyFrom_43 kt_131 rfl rfl (fun h_6 => ?_)
        refine r_aload_n C 45 0 rfl dX2_copyFrom_44 rfl ?_
        refine r_getR C 48 dX2_copyFrom_45 flX2_26 kt_130 rfl rf_130_4 rfl ?_
        refine r_iload_n C 49 2 rfl dX2_copyFrom_48 rfl ?_
        refine r_aload_n C 50 1 rfl dX2_copyFrom_49 rfl ?_
        refine r_getR C 53 dX2_copyFrom_50 flX2_26 kt_71 rfl rf_71_4 rfl ?_
        refine r_iload_n C 54 2 rfl dX2_copyFrom_53 rfl ?_
        refine r_iald C 55 dX2_copyFrom_54 kt_73 rfl rfl (fun v_7 => ?_)
        refine r_iast C 56 dX2_copyFrom_55 kt_132 rfl rfl (fun h_8 => ?_)
        refine r_aload_n C 57 0 rfl dX2_copyFrom_56 rfl ?_
        refine r_getR C 60 dX2_copyFrom_57 flX2_29 kt_130 rfl rf_130_5 rfl ?_
        refine r_iload_n C 61 2 rfl dX2_copyFrom_60 rfl ?_
        refine r_aload_n C 62 1 rfl dX2_copyFrom_61 rfl ?_
        refine r_getR C 65 dX2_copyFrom_62 flX2_29 kt_71 rfl rf_71_5 rfl ?_
        refine r_iload_n C 66 2 rfl dX2_copyFrom_65 rfl ?_
        refine r_iald C 67 dX2_copyFrom_66 kt_74 rfl rfl (fun v_9 => ?_)
        refine r_iast C 68 dX2_copyFrom_67 kt_133 rfl rfl (fun h_10 => ?_)
        refine r_aload_n C 69 0 rfl dX2_copyFrom_68 rfl ?_
        refine r_getR C 72 dX2_copyFrom_69 flX2_32 kt_130 rfl rf_130_6 rfl ?_
        refine r_iload_n C 73 2 rfl dX2_copyFrom_72 rfl ?_
        refine r_aload_n C 74 1 rfl dX2_copyFrom_73 rfl ?_
        refine r_getR C 77 dX2_copyFrom_74 flX2_32 kt_71 rfl rf_71_6 rfl ?_
        refine r_iload_n C 78 2 rfl dX2_copyFrom_77 rfl ?_
        refine r_iald C 79 dX2_copyFrom_78 kt_75 rfl rfl (fun v_11 => ?_)
        refine r_iast C 80 dX2_copyFrom_79 kt_134 rfl rfl (fun h_12 => ?_)
        refine r_aload_n C 81 0 rfl dX2_copyFrom_80 rfl ?_
        refine r_getR C 84 dX2_copyFrom_81 flX2_35 kt_130 rfl rf_130_7 rfl ?_
        refine r_iload_n C 85 2 rfl dX2_copyFrom_84 rfl ?_
        refine r_aload_n C 86 1 rfl dX2_copyFrom_85 rfl ?_
        refine r_getR C 89 dX2_copyFrom_86 flX2_35 kt_71 rfl rf_71_7 rfl ?_
        refine r_iload_n C 90 2 rfl dX2_copyFrom_89 rfl ?_
        refine r_iald C 91 dX2_copyFrom_90 kt_76 rfl rfl (fun v_13 => ?_)
        refine r_iast C 92 dX2_copyFrom_91 kt_135 rfl rfl (fun h_14 => ?_)
        refine r_aload_n C 93 0 rfl dX2_copyFrom_92 rfl ?_
        refine r_getR C 96 dX2_copyFrom_93 flX2_38 kt_130 rfl rf_130_8 rfl ?_
        refine r_iload_n C 97 2 rfl dX2_copyFrom_96 rfl ?_
        refine r_aload_n C 98 1 rfl dX2_copyFrom_97 rfl ?_
        refine r_getR C 101 dX2_copyFrom_98 flX2_38 kt_71 rfl rf_71_8 rfl ?_
        refine r_iload_n C 102 2 rfl dX2_copyFrom_101 rfl ?_
        refine r_iald C 103 dX2_copyFrom_102 kt_77 rfl rfl (fun v_15 => ?_)
        refine r_iast C 104 dX2_copyFrom_103 kt_136 rfl rfl (fun h_16 => ?_)
        refine r_iinc C 107 2 (nI 1) [(2, .int (x2 + (nI 1))), (0, .ref (kad κ 130)), (1, .ref (kad κ 71))] dX2_copyFrom_104 rfl (by decide) (by decide) rfl rfl ?_
        refine r_goto C 18 dX2_copyFrom_107 (by decide) ?_
        exact imp_sub [(0, .ref (kad κ 130)), (1, .ref (kad κ 71)), (2, .int (x2 + (nI 1)))] [1, 2, 0] rfl (ih (x2 + (nI 1)) h_16)
      · exact r_vret C Rr dX2_copyFrom_110 (fun _ => rfl) rfl
    · exact r_vret C Rr dX2_copyFrom_110 (fun _ => rfl) rfl
set_option maxHeartbeats 4000000 in
set_option maxRecDepth 100000 in
theorem imp_f_X2_copyFrom_130_71 {κ : Kx (Unit × CH)} (C : Cx κ cX2_copyFrom RX2 3 1 (40 * 1) [])   (h : CH) (Rr : Rt κ none (fun (_ : Unit × CH) (_ : Nat → Nat) => (none : Option Value)) (fun (q : (Unit × CH)) => q.2)) : Imp κ 0 [(0, .ref (kad κ 130)), (1, .ref (kad κ 71))] [] h (f_X2_copyFrom_130_71 h) := by
  unfold f_X2_copyFrom_130_71
  refine r_aload_n C 1 0 rfl dX2_copyFrom_0 rfl ?_
  refine r_aload_n C 2 1 rfl dX2_copyFrom_1 rfl ?_
  refine r_getI C 5 dX2_copyFrom_2 flX2_9 kt_71 rfl rfl ?_
  refine r_putI C 8 dX2_copyFrom_5 flX2_9 kt_130 rfl rfl (fun h_1 => ?_)
  refine r_aload_n C 9 0 rfl dX2_copyFrom_8 rfl ?_
  refine r_aload_n C 10 1 rfl dX2_copyFrom_9 rfl ?_
  refine r_getI C 13 dX2_copyFrom_10 flX2_15 kt_71 rfl rfl ?_
  refine r_putI C 16 dX2_copyFrom_13 flX2_15 kt_130 rfl rfl (fun h_2 => ?_)
  refine r_iconst C 17 (nI 0) (by decide) dX2_copyFrom_16 rfl ?_
  refine r_istore_n C 18 2 [(2, .int ((nI 0))), (0, .ref (kad κ 130)), (1, .ref (kad κ 71))] dX2_copyFrom_17 rfl (by decide) rfl rfl ?_
  refine imp_sub [(0, .ref (kad κ 130)), (1, .ref (kad κ 71)), (2, .int ((nI 0)))] [1, 2, 0] rfl ?_
  refine imp_f_X2_copyFrom_130_71_L18 C Rr FU ((nI 0)) h_2
set_option maxHeartbeats 4000000 in
theorem ok_f_X2_copyFrom_130_71   (h : CH) : ∀ q, f_X2_copyFrom_130_71 h = some q → MG yX2_copyFrom cX2_copyFrom 3 none [] 1 (fun ad => [.ref (ad 130), .ref (ad 71)]) h ((fun (_ : Unit × CH) (_ : Nat → Nat) => (none : Option Value)) q) ((fun (q : (Unit × CH)) => q.2) q) := mg_of RX2 (by decide) rfl (fun _ => Nat.le_of_ble_eq_true rfl) (fun κ C Rr => imp_f_X2_copyFrom_130_71 C  h Rr)
set_option maxHeartbeats 4000000 in
set_option maxRecDepth 100000 in
theorem imp_f_X2_copyFrom_137_71_L18 {κ : Kx (Unit × CH)} (C : Cx κ cX2_copyFrom RX2 3 1 (40 * 1) [])     (Rr : Rt κ none (fun (_ : Unit × CH) (_ : Nat → Nat) => (none : Option Value)) (fun (q : (Unit × CH)) => q.2)) : ∀ (n : Nat) (x2 : Int32) (h : CH), Imp κ 18 [(0, .ref (kad κ 137)), (1, .ref (kad κ 71)), (2, .int (x2))] [] h (f_X2_copyFrom_137_71_L18 n x2 h) := by
  intro n
  induction n with
  | zero => intros; exact imp_none
  | succ n ih =>
    intro x2 h
    rw [f_X2_copyFrom_137_71_L18]
    refine r_iload_n C 19 2 rfl dX2_copyFrom_18 rfl ?_
    refine r_aload_n C 20 0 rfl dX2_copyFrom_19 rfl ?_
    refine r_getI C 23 dX2_copyFrom_20 flX2_9 kt_137 rfl rfl ?_
    refine r_icmp_ge C 26 110 dX2_copyFrom_23 (by decide) rfl (fun c_3 => ?_) (fun c_3 => ?_)
    · refine r_iload_n C 27 2 rfl dX2_copyFrom_26 rfl ?_
      refine r_bipush C 29 (nI 40) (by decide) dX2_copyFrom_27 rfl ?_
      refine r_icmp_ge C 32 110 dX2_copyFrom_29 (by decide) rfl (fun c_4 => ?_) (fun c_4 => ?_)
      · refine r_aload_n C 33 0 rfl dX2_copyFrom_32 rfl ?_
        refine r_getR C 36 dX2_copyFrom_33 flX2_22 kt_137 rfl rf_137_3 rfl ?_
        refine r_iload_n C 37 2 rfl dX2_copyFrom_36 rfl ?_
        refine r_aload_n C 38 1 rfl dX2_copyFrom_37 rfl ?_
        refine r_getR C 41 dX2_copyFrom_38 flX2_22 kt_71 rfl rf_71_3 rfl ?_
        refine r_iload_n C 42 2 rfl dX2_copyFrom_41 rfl ?_
        refine r_iald C 43 dX2_copyFrom_42 kt_72 rfl rfl (fun v_5 => ?_)
        refine r_iast C 44 dX2_copyFrom_43 kt_138 rfl rfl (fun h_6 => ?_)
        refine r_aload_n C 45 0 rfl dX2_copyFrom_44 rfl ?_
        refine r_getR C 48 dX2_copyFrom_45 flX2_26 kt_137 rfl rf_137_4 rfl ?_
        refine r_iload_n C 49 2 rfl dX2_copyFrom_48 rfl ?_
        refine r_aload_n C 50 1 rfl dX2_copyFrom_49 rfl ?_
        refine r_getR C 53 dX2_copyFrom_50 flX2_26 kt_71 rfl rf_71_4 rfl ?_
        refine r_iload_n C 54 2 rfl dX2_copyFrom_53 rfl ?_
        refine r_iald C 55 dX2_copyFrom_54 kt_73 rfl rfl (fun v_7 => ?_)
        refine r_iast C 56 dX2_copyFrom_55 kt_139 rfl rfl (fun h_8 => ?_)
        refine r_aload_n C 57 0 rfl dX2_copyFrom_56 rfl ?_
        refine r_getR C 60 dX2_copyFrom_57 flX2_29 kt_137 rfl rf_137_5 rfl ?_
        refine r_iload_n C 61 2 rfl dX2_copyFrom_60 rfl ?_
        refine r_aload_n C 62 1 rfl dX2_copyFrom_61 rfl ?_
        refine r_getR C 65 dX2_copyFrom_62 flX2_29 kt_71 rfl rf_71_5 rfl ?_
        refine r_iload_n C 66 2 rfl dX2_copyFrom_65 rfl ?_
        refine r_iald C 67 dX2_copyFrom_66 kt_74 rfl rfl (fun v_9 => ?_)
        refine r_iast C 68 dX2_copyFrom_67 kt_140 rfl rfl (fun h_10 => ?_)
        refine r_aload_n C 69 0 rfl dX2_copyFrom_68 rfl ?_
        refine r_getR C 72 dX2_copyFrom_69 flX2_32 kt_137 rfl rf_137_6 rfl ?_
        refine r_iload_n C 73 2 rfl dX2_copyFrom_72 rfl ?_
        refine r_aload_n C 74 1 rfl dX2_copyFrom_73 rfl ?_
        refine r_getR C 77 dX2_copyFrom_74 flX2_32 kt_71 rfl rf_71_6 rfl ?_
        refine r_iload_n C 78 2 rfl dX2_copyFrom_77 rfl ?_
        refine r_iald C 79 dX2_copyFrom_78 kt_75 rfl rfl (fun v_11 => ?_)
        refine r_iast C 80 dX2_copyFrom_79 kt_141 rfl rfl (fun h_12 => ?_)
        refine r_aload_n C 81 0 rfl dX2_copyFrom_80 rfl ?_
        refine r_getR C 84 dX2_copyFrom_81 flX2_35 kt_137 rfl rf_137_7 rfl ?_
        refine r_iload_n C 85 2 rfl dX2_copyFrom_84 rfl ?_
        refine r_aload_n C 86 1 rfl dX2_copyFrom_85 rfl ?_
        refine r_getR C 89 dX2_copyFrom_86 flX2_35 kt_71 rfl rf_71_7 rfl ?_
        refine r_iload_n C 90 2 rfl dX2_copyFrom_89 rfl ?_
        refine r_iald C 91 dX2_copyFrom_90 kt_76 rfl rfl (fun v_13 => ?_)
        refine r_iast C 92 dX2_copyFrom_91 kt_142 rfl rfl (fun h_14 => ?_)
        refine r_aload_n C 93 0 rfl dX2_copyFrom_92 rfl ?_
        refine r_getR C 96 dX2_copyFrom_93 flX2_38 kt_137 rfl rf_137_8 rfl ?_
        refine r_iload_n C 97 2 rfl dX2_copyFrom_96 rfl ?_
        refine r_aload_n C 98 1 rfl dX2_copyFrom_97 rfl ?_
        refine r_getR C 101 dX2_copyFrom_98 flX2_38 kt_71 rfl rf_71_8 rfl ?_
        refine r_iload_n C 102 2 rfl dX2_copyFrom_101 rfl ?_
        refine r_iald C 103 dX2_copyFrom_102 kt_77 rfl rfl (fun v_15 => ?_)
        refine r_iast C 104 dX2_copyFrom_103 kt_143 rfl rfl (fun h_16 => ?_)
        refine r_iinc C 107 2 (nI 1) [(2, .int (x2 + (nI 1))), (0, .ref (kad κ 137)), (1, .ref (kad κ 71))] dX2_copyFrom_104 rfl (by decide) (by decide) rfl rfl ?_
        refine r_goto C 18 dX2_copyFrom_107 (by decide) ?_
        exact imp_sub [(0, .ref (kad κ 137)), (1, .ref (kad κ 71)), (2, .int (x2 + (nI 1)))] [1, 2, 0] rfl (ih (x2 + (nI 1)) h_16)
      · exact r_vret C Rr dX2_copyFrom_110 (fun _ => rfl) rfl
    · exact r_vret C Rr dX2_copyFrom_110 (fun _ => rfl) rfl
set_option maxHeartbeats 4000000 in
set_option maxRecDepth 100000 in
theorem imp_f_X2_copyFrom_137_71 {κ : Kx (Unit × CH)} (C : Cx κ cX2_copyFrom RX2 3 1 (40 * 1) [])   (h : CH) (Rr : Rt κ none (fun (_ : Unit × CH) (_ : Nat → Nat) => (none : Option Value)) (fun (q : (Unit × CH)) => q.2)) : Imp κ 0 [(0, .ref (kad κ 137)), (1, .ref (kad κ 71))] [] h (f_X2_copyFrom_137_71 h) := by
  unfold f_X2_copyFrom_137_71
  refine r_aload_n C 1 0 rfl dX2_copyFrom_0 rfl ?_
  refine r_aload_n C 2 1 rfl dX2_copyFrom_1 rfl ?_
  refine r_getI C 5 dX2_copyFrom_2 flX2_9 kt_71 rfl rfl ?_
  refine r_putI C 8 dX2_copyFrom_5 flX2_9 kt_137 rfl rfl (fun h_1 => ?_)
  refine r_aload_n C 9 0 rfl dX2_copyFrom_8 rfl ?_
  refine r_aload_n C 10 1 rfl dX2_copyFrom_9 rfl ?_
  refine r_getI C 13 dX2_copyFrom_10 flX2_15 kt_71 rfl rfl ?_
  refine r_putI C 16 dX2_copyFrom_13 flX2_15 kt_137 rfl rfl (fun h_2 => ?_)
  refine r_iconst C 17 (nI 0) (by decide) dX2_copyFrom_16 rfl ?_
  refine r_istore_n C 18 2 [(2, .int ((nI 0))), (0, .ref (kad κ 137)), (1, .ref (kad κ 71))] dX2_copyFrom_17 rfl (by decide) rfl rfl ?_
  refine imp_sub [(0, .ref (kad κ 137)), (1, .ref (kad κ 71)), (2, .int ((nI 0)))] [1, 2, 0] rfl ?_
  refine imp_f_X2_copyFrom_137_71_L18 C Rr FU ((nI 0)) h_2
set_option maxHeartbeats 4000000 in
theorem ok_f_X2_copyFrom_137_71   (h : CH) : ∀ q, f_X2_copyFrom_137_71 h = some q → MG yX2_copyFrom cX2_copyFrom 3 none [] 1 (fun ad => [.ref (ad 137), .ref (ad 71)]) h ((fun (_ : Unit × CH) (_ : Nat → Nat) => (none : Option Value)) q) ((fun (q : (Unit × CH)) => q.2) q) := mg_of RX2 (by decide) rfl (fun _ => Nat.le_of_ble_eq_true rfl) (fun κ C Rr => imp_f_X2_copyFrom_137_71 C  h Rr)
set_option maxHeartbeats 4000000 in
set_option maxRecDepth 100000 in
theorem imp_f_X2_copyFrom_144_71_L18 {κ : Kx (Unit × CH)} (C : Cx κ cX2_copyFrom RX2 3 1 (40 * 1) [])     (Rr : Rt κ none (fun (_ : Unit × CH) (_ : Nat → Nat) => (none : Option Value)) (fun (q : (Unit × CH)) => q.2)) : ∀ (n : Nat) (x2 : Int32) (h : CH), Imp κ 18 [(0, .ref (kad κ 144)), (1, .ref (kad κ 71)), (2, .int (x2))] [] h (f_X2_copyFrom_144_71_L18 n x2 h) := by
  intro n
  induction n with
  | zero => intros; exact imp_none
  | succ n ih =>
    intro x2 h
    rw [f_X2_copyFrom_144_71_L18]
    refine r_iload_n C 19 2 rfl dX2_copyFrom_18 rfl ?_
    refine r_aload_n C 20 0 rfl dX2_copyFrom_19 rfl ?_
    refine r_getI C 23 dX2_copyFrom_20 flX2_9 kt_144 rfl rfl ?_
    refine r_icmp_ge C 26 110 dX2_copyFrom_23 (by decide) rfl (fun c_3 => ?_) (fun c_3 => ?_)
    · refine r_iload_n C 27 2 rfl dX2_copyFrom_26 rfl ?_
      refine r_bipush C 29 (nI 40) (by decide) dX2_copyFrom_27 rfl ?_
      refine r_icmp_ge C 32 110 dX2_copyFrom_29 (by decide) rfl (fun c_4 => ?_) (fun c_4 => ?_)
      · refine r_aload_n C 33 0 rfl dX2_copyFrom_32 rfl ?_
        refine r_getR C 36 dX2_copyFrom_33 flX2_22 kt_144 rfl rf_144_3 rfl ?_
        refine r_iload_n C 37 2 rfl dX2_copyFrom_36 rfl ?_
        refine r_aload_n C 38 1 rfl dX2_copyFrom_37 rfl ?_
        refine r_getR C 41 dX2_copyFrom_38 flX2_22 kt_71 rfl rf_71_3 rfl ?_
        refine r_iload_n C 42 2 rfl dX2_copyFrom_41 rfl ?_
        refine r_iald C 43 dX2_copyFrom_42 kt_72 rfl rfl (fun v_5 => ?_)
        refine r_iast C 44 dX2_copyFrom_43 kt_145 rfl rfl (fun h_6 => ?_)
        refine r_aload_n C 45 0 rfl dX2_copyFrom_44 rfl ?_
        refine r_getR C 48 dX2_copyFrom_45 flX2_26 kt_144 rfl rf_144_4 rfl ?_
        refine r_iload_n C 49 2 rfl dX2_copyFrom_48 rfl ?_
        refine r_aload_n C 50 1 rfl dX2_copyFrom_49 rfl ?_
        refine r_getR C 53 dX2_copyFrom_50 flX2_26 kt_71 rfl rf_71_4 rfl ?_
        refine r_iload_n C 54 2 rfl dX2_copyFrom_53 rfl ?_
        refine r_iald C 55 dX2_copyFrom_54 kt_73 rfl rfl (fun v_7 => ?_)
        refine r_iast C 56 dX2_copyFrom_55 kt_146 rfl rfl (fun h_8 => ?_)
        refine r_aload_n C 57 0 rfl dX2_copyFrom_56 rfl ?_
        refine r_getR C 60 dX2_copyFrom_57 flX2_29 kt_144 rfl rf_144_5 rfl ?_
        refine r_iload_n C 61 2 rfl dX2_copyFrom_60 rfl ?_
        refine r_aload_n C 62 1 rfl dX2_copyFrom_61 rfl ?_
        refine r_getR C 65 dX2_copyFrom_62 flX2_29 kt_71 rfl rf_71_5 rfl ?_
        refine r_iload_n C 66 2 rfl dX2_copyFrom_65 rfl ?_
        refine r_iald C 67 dX2_copyFrom_66 kt_74 rfl rfl (fun v_9 => ?_)
        refine r_iast C 68 dX2_copyFrom_67 kt_147 rfl rfl (fun h_10 => ?_)
        refine r_aload_n C 69 0 rfl dX2_copyFrom_68 rfl ?_
        refine r_getR C 72 dX2_copyFrom_69 flX2_32 kt_144 rfl rf_144_6 rfl ?_
        refine r_iload_n C 73 2 rfl dX2_copyFrom_72 rfl ?_
        refine r_aload_n C 74 1 rfl dX2_copyFrom_73 rfl ?_
        refine r_getR C 77 dX2_copyFrom_74 flX2_32 kt_71 rfl rf_71_6 rfl ?_
        refine r_iload_n C 78 2 rfl dX2_copyFrom_77 rfl ?_
        refine r_iald C 79 dX2_copyFrom_78 kt_75 rfl rfl (fun v_11 => ?_)
        refine r_iast C 80 dX2_copyFrom_79 kt_148 rfl rfl (fun h_12 => ?_)
        refine r_aload_n C 81 0 rfl dX2_copyFrom_80 rfl ?_
        refine r_getR C 84 dX2_copyFrom_81 flX2_35 kt_144 rfl rf_144_7 rfl ?_
        refine r_iload_n C 85 2 rfl dX2_copyFrom_84 rfl ?_
        refine r_aload_n C 86 1 rfl dX2_copyFrom_85 rfl ?_
        refine r_getR C 89 dX2_copyFrom_86 flX2_35 kt_71 rfl rf_71_7 rfl ?_
        refine r_iload_n C 90 2 rfl dX2_copyFrom_89 rfl ?_
        refine r_iald C 91 dX2_copyFrom_90 kt_76 rfl rfl (fun v_13 => ?_)
        refine r_iast C 92 dX2_copyFrom_91 kt_149 rfl rfl (fun h_14 => ?_)
        refine r_aload_n C 93 0 rfl dX2_copyFrom_92 rfl ?_
        refine r_getR C 96 dX2_copyFrom_93 flX2_38 kt_144 rfl rf_144_8 rfl ?_
        refine r_iload_n C 97 2 rfl dX2_copyFrom_96 rfl ?_
        refine r_aload_n C 98 1 rfl dX2_copyFrom_97 rfl ?_
        refine r_getR C 101 dX2_copyFrom_98 flX2_38 kt_71 rfl rf_71_8 rfl ?_
        refine r_iload_n C 102 2 rfl dX2_copyFrom_101 rfl ?_
        refine r_iald C 103 dX2_copyFrom_102 kt_77 rfl rfl (fun v_15 => ?_)
        refine r_iast C 104 dX2_copyFrom_103 kt_150 rfl rfl (fun h_16 => ?_)
        refine r_iinc C 107 2 (nI 1) [(2, .int (x2 + (nI 1))), (0, .ref (kad κ 144)), (1, .ref (kad κ 71))] dX2_copyFrom_104 rfl (by decide) (by decide) rfl rfl ?_
        refine r_goto C 18 dX2_copyFrom_107 (by decide) ?_
        exact imp_sub [(0, .ref (kad κ 144)), (1, .ref (kad κ 71)), (2, .int (x2 + (nI 1)))] [1, 2, 0] rfl (ih (x2 + (nI 1)) h_16)
      · exact r_vret C Rr dX2_copyFrom_110 (fun _ => rfl) rfl
    · exact r_vret C Rr dX2_copyFrom_110 (fun _ => rfl) rfl
set_option maxHeartbeats 4000000 in
set_option maxRecDepth 100000 in
theorem imp_f_X2_copyFrom_144_71 {κ : Kx (Unit × CH)} (C : Cx κ cX2_copyFrom RX2 3 1 (40 * 1) [])   (h : CH) (Rr : Rt κ none (fun (_ : Unit × CH) (_ : Nat → Nat) => (none : Option Value)) (fun (q : (Unit × CH)) => q.2)) : Imp κ 0 [(0, .ref (kad κ 144)), (1, .ref (kad κ 71))] [] h (f_X2_copyFrom_144_71 h) := by
  unfold f_X2_copyFrom_144_71
  refine r_aload_n C 1 0 rfl dX2_copyFrom_0 rfl ?_
  refine r_aload_n C 2 1 rfl dX2_copyFrom_1 rfl ?_
  refine r_getI C 5 dX2_copyFrom_2 flX2_9 kt_71 rfl rfl ?_
  refine r_putI C 8 dX2_copyFrom_5 flX2_9 kt_144 rfl rfl (fun h_1 => ?_)
  refine r_aload_n C 9 0 rfl dX2_copyFrom_8 rfl ?_
  refine r_aload_n C 10 1 rfl dX2_copyFrom_9 rfl ?_
  refine r_getI C 13 dX2_copyFrom_10 flX2_15 kt_71 rfl rfl ?_
  refine r_putI C 16 dX2_copyFrom_13 flX2_15 kt_144 rfl rfl (fun h_2 => ?_)
  refine r_iconst C 17 (nI 0) (by decide) dX2_copyFrom_16 rfl ?_
  refine r_istore_n C 18 2 [(2, .int ((nI 0))), (0, .ref (kad κ 144)), (1, .ref (kad κ 71))] dX2_copyFrom_17 rfl (by decide) rfl rfl ?_
  refine imp_sub [(0, .ref (kad κ 144)), (1, .ref (kad κ 71)), (2, .int ((nI 0)))] [1, 2, 0] rfl ?_
  refine imp_f_X2_copyFrom_144_71_L18 C Rr FU ((nI 0)) h_2
set_option maxHeartbeats 4000000 in
theorem ok_f_X2_copyFrom_144_71   (h : CH) : ∀ q, f_X2_copyFrom_144_71 h = some q → MG yX2_copyFrom cX2_copyFrom 3 none [] 1 (fun ad => [.ref (ad 144), .ref (ad 71)]) h ((fun (_ : Unit × CH) (_ : Nat → Nat) => (none : Option Value)) q) ((fun (q : (Unit × CH)) => q.2) q) := mg_of RX2 (by decide) rfl (fun _ => Nat.le_of_ble_eq_true rfl) (fun κ C Rr => imp_f_X2_copyFrom_144_71 C  h Rr)
set_option maxHeartbeats 4000000 in
set_option maxRecDepth 100000 in
theorem imp_f_X11_image {κ : Kx (Int32 × CH)} (C : Cx κ cX11_image RX11 3 2 (40 * 2) []) (x1 : Int32)  (h : CH) (Rr : Rt κ (some .int) (fun (q : Int32 × CH) (_ : Nat → Nat) => some (Value.int q.1)) (fun (q : (Int32 × CH)) => q.2)) : Imp κ 0 [(0, .ref (kad κ 0)), (1, .int (x1))] [] h (f_X11_image x1 h) := by
  unfold f_X11_image
  refine r_aload_n C 1 0 rfl dX11_image_0 rfl ?_
  refine r_iload_n C 2 1 rfl dX11_image_1 rfl ?_
  refine r_cVpO C 5 [] (ok_f_X11_boxAt x1 h) dX11_image_2 lvX11_309 kt_0 rfl rfl rfl (by decide) (Nat.le_of_ble_eq_true rfl) rfl rfl (Nat.le_of_ble_eq_true rfl) rfl rfl (fun v_1 => ?_)
  refine r_astore_nO C 6 2 [(2, va_rf (Option.map (kad κ) v_1)), (0, .ref (kad κ 0)), (1, .int (x1))] dX11_image_5 rfl (by decide) rfl rfl ?_
  refine r_aload_nO C 7 0 rfl dX11_image_6 rfl ?_
  refine imp_ite (fun e_2 => ?_) (fun e_2 => ?_)
  · rw [e_2]
    refine r_ifnonnullN C 10 dX11_image_7 rfl ?_
    refine r_iconst C 11 (-1) (by decide) dX11_image_10 rfl ?_
    exact r_iret C Rr dX11_image_11 (fun _ => rfl) rfl
  · refine imp_ite (fun e_5 => ?_) (fun e_5 => ?_)
    · rw [e_5]
      refine r_ifnonnull C 12 dX11_image_7 (by decide) ?_
      refine r_aload_n C 13 0 rfl dX11_image_12 rfl ?_
      refine r_aload_n C 14 1 rfl dX11_image_13 rfl ?_
      refine r_getR C 17 dX11_image_14 flX11_55 kt_0 rfl rf_0_9 rfl ?_
      refine r_cViV C 20 [] (ok_f_X2_copyFrom_130_71 h) dX11_image_17 lvX11_313 kt_130 rfl rfl rfl (by decide) (Nat.le_of_ble_eq_true rfl) rfl rfl (Nat.le_of_ble_eq_true rfl) rfl rfl (fun _ h_3 => ?_)
      refine r_aload_n C 21 0 rfl dX11_image_20 rfl ?_
      refine r_iconst C 22 (nI 1) (by decide) dX11_image_21 rfl ?_
      refine r_putZ C 25 dX11_image_22 flX11_316 kt_130 rfl rfl (fun h_4 => ?_)
      refine r_aload_n C 26 1 rfl dX11_image_25 rfl ?_
      refine r_getR C 29 dX11_image_26 flX11_55 kt_0 rfl rf_0_9 rfl ?_
      refine r_getI C 32 dX11_image_29 flX11_320 kt_71 rfl rfl ?_
      exact r_iret C Rr dX11_image_32 (fun _ => rfl) rfl
    · refine imp_ite (fun e_8 => ?_) (fun e_8 => ?_)
      · rw [e_8]
        refine r_ifnonnull C 12 dX11_image_7 (by decide) ?_
        refine r_aload_n C 13 0 rfl dX11_image_12 rfl ?_
        refine r_aload_n C 14 1 rfl dX11_image_13 rfl ?_
        refine r_getR C 17 dX11_image_14 flX11_55 kt_0 rfl rf_0_9 rfl ?_
        refine r_cViV C 20 [] (ok_f_X2_copyFrom_137_71 h) dX11_image_17 lvX11_313 kt_137 rfl rfl rfl (by decide) (Nat.le_of_ble_eq_true rfl) rfl rfl (Nat.le_of_ble_eq_true rfl) rfl rfl (fun _ h_6 => ?_)
        refine r_aload_n C 21 0 rfl dX11_image_20 rfl ?_
        refine r_iconst C 22 (nI 1) (by decide) dX11_image_21 rfl ?_
        refine r_putZ C 25 dX11_image_22 flX11_316 kt_137 rfl rfl (fun h_7 => ?_)
        refine r_aload_n C 26 1 rfl dX11_image_25 rfl ?_
        refine r_getR C 29 dX11_image_26 flX11_55 kt_0 rfl rf_0_9 rfl ?_
        refine r_getI C 32 dX11_image_29 flX11_320 kt_71 rfl rfl ?_
        exact r_iret C Rr dX11_image_32 (fun _ => rfl) rfl
      · refine imp_ite (fun e_11 => ?_) (fun e_11 => ?_)
        · rw [e_11]
          refine r_ifnonnull C 12 dX11_image_7 (by decide) ?_
          refine r_aload_n C 13 0 rfl dX11_image_12 rfl ?_
          refine r_aload_n C 14 1 rfl dX11_image_13 rfl ?_
          refine r_getR C 17 dX11_image_14 flX11_55 kt_0 rfl rf_0_9 rfl ?_
          refine r_cViV C 20 [] (ok_f_X2_copyFrom_144_71 h) dX11_image_17 lvX11_313 kt_144 rfl rfl rfl (by decide) (Nat.le_of_ble_eq_true rfl) rfl rfl (Nat.le_of_ble_eq_true rfl) rfl rfl (fun _ h_9 => ?_)
          refine r_aload_n C 21 0 rfl dX11_image_20 rfl ?_
          refine r_iconst C 22 (nI 1) (by decide) dX11_image_21 rfl ?_
          refine r_putZ C 25 dX11_image_22 flX11_316 kt_144 rfl rfl (fun h_10 => ?_)
          refine r_aload_n C 26 1 rfl dX11_image_25 rfl ?_
          refine r_getR C 29 dX11_image_26 flX11_55 kt_0 rfl rf_0_9 rfl ?_
          refine r_getI C 32 dX11_image_29 flX11_320 kt_71 rfl rfl ?_
          exact r_iret C Rr dX11_image_32 (fun _ => rfl) rfl
        · exact imp_none
set_option maxHeartbeats 4000000 in
theorem ok_f_X11_image (x1 : Int32)  (h : CH) : ∀ q, f_X11_image x1 h = some q → MG yX11_image cX11_image 3 (some .int) [] 2 (fun ad => [.ref (ad 0), .int x1]) h ((fun (q : Int32 × CH) (_ : Nat → Nat) => some (Value.int q.1)) q) ((fun (q : (Int32 × CH)) => q.2) q) := mg_of RX11 (by decide) rfl (fun _ => Nat.le_of_ble_eq_true rfl) (fun κ C Rr => imp_f_X11_image C x1 h Rr)
