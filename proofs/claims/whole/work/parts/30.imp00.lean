/-! the methods do what the functions say, by program -/
set_option maxHeartbeats 4000000 in
set_option maxRecDepth 100000 in
theorem imp_f_X11_putOnTape_L3 {κ : Kx (Unit × CH)} (C : Cx κ cX11_putOnTape RX11 3 1 (40 * 1) []) (x1 : Int32)    (Rr : Rt κ none (fun (_ : Unit × CH) (_ : Nat → Nat) => (none : Option Value)) (fun (q : (Unit × CH)) => q.2)) : ∀ (n : Nat) (x2 : Int32) (h : CH), Imp κ 3 [(0, .ref (kad κ 0)), (1, .int (x1)), (2, .int (x2))] [] h (f_X11_putOnTape_L3 x1 n x2 h) := by
  intro n
  induction n with
  | zero => intros; exact imp_none
  | succ n ih =>
    intro x2 h
    rw [f_X11_putOnTape_L3]
    refine r_iload_n C 4 2 rfl dX11_putOnTape_3 rfl ?_
    refine r_if_lt C 7 46 dX11_putOnTape_4 (by decide) rfl (fun c_1 => ?_) (fun c_1 => ?_)
    · exact r_vret C Rr dX11_putOnTape_46 (fun _ => rfl) rfl
    · refine r_aload_n C 8 0 rfl dX11_putOnTape_7 rfl ?_
      refine r_getI C 11 dX11_putOnTape_8 flX11_13 kt_0 rfl rfl ?_
      refine r_sipush C 14 (nI 1600) (by decide) dX11_putOnTape_11 rfl ?_
      refine imp_jn (fun (j_3 : CH → Option (Unit × CH)) => ∀ (h_2 : CH), Imp κ 40 [(0, .ref (kad κ 0)), (1, .int (x1)), (2, .int (x2))] [] h_2 (j_3 h_2)) ?_ ?_
      · intro h_2
        refine r_iinc C 43 2 (-8) [(2, .int (x2 + (-8))), (0, .ref (kad κ 0)), (1, .int (x1))] dX11_putOnTape_40 rfl (by decide) (by decide) rfl rfl ?_
        refine r_goto C 3 dX11_putOnTape_43 (by decide) ?_
        exact imp_sub [(0, .ref (kad κ 0)), (1, .int (x1)), (2, .int (x2 + (-8)))] [1, 2, 0] rfl (ih (x2 + (-8)) h_2)
      · intro j_3 hj_3
        refine r_icmp_ge C 17 40 dX11_putOnTape_14 (by decide) rfl (fun c_4 => ?_) (fun c_4 => ?_)
        · refine r_aload_n C 18 0 rfl dX11_putOnTape_17 rfl ?_
          refine r_getR C 21 dX11_putOnTape_18 flX11_9 kt_0 rfl rf_0_0 rfl ?_
          refine r_aload_n C 22 0 rfl dX11_putOnTape_21 rfl ?_
          refine r_getI C 25 dX11_putOnTape_22 flX11_13 kt_0 rfl rfl ?_
          refine r_iload_n C 26 1 rfl dX11_putOnTape_25 rfl ?_
          refine r_iload_n C 27 2 rfl dX11_putOnTape_26 rfl ?_
          refine r_iushr C 28 dX11_putOnTape_27 rfl ?_
          refine r_i2b C 29 dX11_putOnTape_28 rfl ?_
          refine r_bast C 30 dX11_putOnTape_29 kt_1 rfl rfl (fun h_5 => ?_)
          refine r_aload_n C 31 0 rfl dX11_putOnTape_30 rfl ?_
          refine r_dup C 32 rfl dX11_putOnTape_31 rfl ?_
          refine r_getI C 35 dX11_putOnTape_32 flX11_13 kt_0 rfl rfl ?_
          refine r_iconst C 36 (nI 1) (by decide) dX11_putOnTape_35 rfl ?_
          refine r_iadd C 37 dX11_putOnTape_36 rfl ?_
          refine r_putI C 40 dX11_putOnTape_37 flX11_13 kt_0 rfl rfl (fun h_6 => ?_)
          exact imp_sub [(0, .ref (kad κ 0)), (1, .int (x1)), (2, .int (x2))] [0, 1, 2] rfl (hj_3 h_6)
        · exact imp_sub [(0, .ref (kad κ 0)), (1, .int (x1)), (2, .int (x2))] [0, 1, 2] rfl (hj_3 h)
set_option maxHeartbeats 4000000 in
set_option maxRecDepth 100000 in
theorem imp_f_X11_putOnTape {κ : Kx (Unit × CH)} (C : Cx κ cX11_putOnTape RX11 3 1 (40 * 1) []) (x1 : Int32)  (h : CH) (Rr : Rt κ none (fun (_ : Unit × CH) (_ : Nat → Nat) => (none : Option Value)) (fun (q : (Unit × CH)) => q.2)) : Imp κ 0 [(0, .ref (kad κ 0)), (1, .int (x1))] [] h (f_X11_putOnTape x1 h) := by
  unfold f_X11_putOnTape
  refine r_bipush C 2 (nI 24) (by decide) dX11_putOnTape_0 rfl ?_
  refine r_istore_n C 3 2 [(2, .int ((nI 24))), (0, .ref (kad κ 0)), (1, .int (x1))] dX11_putOnTape_2 rfl (by decide) rfl rfl ?_
  refine imp_sub [(0, .ref (kad κ 0)), (1, .int (x1)), (2, .int ((nI 24)))] [1, 2, 0] rfl ?_
  refine imp_f_X11_putOnTape_L3 C (x1) Rr FU ((nI 24)) h
set_option maxHeartbeats 4000000 in
theorem ok_f_X11_putOnTape (x1 : Int32)  (h : CH) : ∀ q, f_X11_putOnTape x1 h = some q → MG yX11_putOnTape cX11_putOnTape 3 none [] 1 (fun ad => [.ref (ad 0), .int x1]) h ((fun (_ : Unit × CH) (_ : Nat → Nat) => (none : Option Value)) q) ((fun (q : (Unit × CH)) => q.2) q) := mg_of RX11 (by decide) rfl (fun _ => Nat.le_of_ble_eq_true rfl) (fun κ C Rr => imp_f_X11_putOnTape C x1 h Rr)
set_option maxHeartbeats 4000000 in
set_option maxRecDepth 100000 in
theorem imp_f_X11_feed {κ : Kx (Int32 × CH)} (C : Cx κ cX11_feed RX11 6 2 (40 * 2) []) (x1 : Int32) (x2 : Int32) (x3 : Int32) (x4 : Int32) (x5 : Int32)  (h : CH) (Rr : Rt κ (some .int) (fun (q : Int32 × CH) (_ : Nat → Nat) => some (Value.int q.1)) (fun (q : (Int32 × CH)) => q.2)) : Imp κ 0 [(0, .ref (kad κ 0)), (1, .int (x1)), (2, .int (x2)), (3, .int (x3)), (4, .int (x4)), (5, .int (x5))] [] h (f_X11_feed x1 x2 x3 x4 x5 h) := by
  unfold f_X11_feed
  refine r_aload_n C 1 0 rfl dX11_feed_0 rfl ?_
  refine r_getI C 4 dX11_feed_1 flX11_13 kt_0 rfl rfl ?_
  refine r_bipush C 6 (nI 20) (by decide) dX11_feed_4 rfl ?_
  refine r_iadd C 7 dX11_feed_6 rfl ?_
  refine r_sipush C 10 (nI 1600) (by decide) dX11_feed_7 rfl ?_
  refine r_icmp_le C 13 15 dX11_feed_10 (by decide) rfl (fun c_1 => ?_) (fun c_1 => ?_)
  · refine r_iconst C 14 (-1) (by decide) dX11_feed_13 rfl ?_
    exact r_iret C Rr dX11_feed_14 (fun _ => rfl) rfl
  · refine r_aload_n C 16 0 rfl dX11_feed_15 rfl ?_
    refine r_iload_n C 17 1 rfl dX11_feed_16 rfl ?_
    refine r_cViV C 20 [] (ok_f_X11_putOnTape x1 h) dX11_feed_17 lvX11_106 kt_0 rfl rfl rfl (by decide) (Nat.le_of_ble_eq_true rfl) rfl rfl (Nat.le_of_ble_eq_true rfl) rfl rfl (fun _ h_2 => ?_)
    refine r_aload_n C 21 0 rfl dX11_feed_20 rfl ?_
    refine r_iload_n C 22 2 rfl dX11_feed_21 rfl ?_
    refine r_cViV C 25 [] (ok_f_X11_putOnTape x2 h_2) dX11_feed_22 lvX11_106 kt_0 rfl rfl rfl (by decide) (Nat.le_of_ble_eq_true rfl) rfl rfl (Nat.le_of_ble_eq_true rfl) rfl rfl (fun _ h_3 => ?_)
    refine r_aload_n C 26 0 rfl dX11_feed_25 rfl ?_
    refine r_iload_n C 27 3 rfl dX11_feed_26 rfl ?_
    refine r_cViV C 30 [] (ok_f_X11_putOnTape x3 h_3) dX11_feed_27 lvX11_106 kt_0 rfl rfl rfl (by decide) (Nat.le_of_ble_eq_true rfl) rfl rfl (Nat.le_of_ble_eq_true rfl) rfl rfl (fun _ h_4 => ?_)
    refine r_aload_n C 31 0 rfl dX11_feed_30 rfl ?_
    refine r_iload C 33 4 rfl dX11_feed_31 rfl ?_
    refine r_cViV C 36 [] (ok_f_X11_putOnTape x4 h_4) dX11_feed_33 lvX11_106 kt_0 rfl rfl rfl (by decide) (Nat.le_of_ble_eq_true rfl) rfl rfl (Nat.le_of_ble_eq_true rfl) rfl rfl (fun _ h_5 => ?_)
    refine r_aload_n C 37 0 rfl dX11_feed_36 rfl ?_
    refine r_iload C 39 5 rfl dX11_feed_37 rfl ?_
    refine r_cViV C 42 [] (ok_f_X11_putOnTape x5 h_5) dX11_feed_39 lvX11_106 kt_0 rfl rfl rfl (by decide) (Nat.le_of_ble_eq_true rfl) rfl rfl (Nat.le_of_ble_eq_true rfl) rfl rfl (fun _ h_6 => ?_)
    refine r_aload_n C 43 0 rfl dX11_feed_42 rfl ?_
    refine r_getI C 46 dX11_feed_43 flX11_13 kt_0 rfl rfl ?_
    exact r_iret C Rr dX11_feed_46 (fun _ => rfl) rfl
set_option maxHeartbeats 4000000 in
theorem ok_f_X11_feed (x1 : Int32) (x2 : Int32) (x3 : Int32) (x4 : Int32) (x5 : Int32)  (h : CH) : ∀ q, f_X11_feed x1 x2 x3 x4 x5 h = some q → MG yX11_feed cX11_feed 6 (some .int) [] 2 (fun ad => [.ref (ad 0), .int x1, .int x2, .int x3, .int x4, .int x5]) h ((fun (q : Int32 × CH) (_ : Nat → Nat) => some (Value.int q.1)) q) ((fun (q : (Int32 × CH)) => q.2) q) := mg_of RX11 (by decide) rfl (fun _ => Nat.le_of_ble_eq_true rfl) (fun κ C Rr => imp_f_X11_feed C x1 x2 x3 x4 x5 h Rr)
set_option maxHeartbeats 4000000 in
set_option maxRecDepth 100000 in
theorem imp_f_X11_end {κ : Kx (Int32 × CH)} (C : Cx κ cX11_end RX11 2 1 (40 * 1) []) (x1 : Int32)  (h : CH) (Rr : Rt κ (some .int) (fun (q : Int32 × CH) (_ : Nat → Nat) => some (Value.int q.1)) (fun (q : (Int32 × CH)) => q.2)) : Imp κ 0 [(0, .ref (kad κ 0)), (1, .int (x1))] [] h (f_X11_end x1 h) := by
  unfold f_X11_end
  refine r_iload_n C 1 1 rfl dX11_end_0 rfl ?_
  refine r_if_lt C 4 12 dX11_end_1 (by decide) rfl (fun c_1 => ?_) (fun c_1 => ?_)
  · refine r_iconst C 13 (-1) (by decide) dX11_end_12 rfl ?_
    exact r_iret C Rr dX11_end_13 (fun _ => rfl) rfl
  · refine r_iload_n C 5 1 rfl dX11_end_4 rfl ?_
    refine r_aload_n C 6 0 rfl dX11_end_5 rfl ?_
    refine r_getI C 9 dX11_end_6 flX11_13 kt_0 rfl rfl ?_
    refine r_icmp_le C 12 14 dX11_end_9 (by decide) rfl (fun c_2 => ?_) (fun c_2 => ?_)
    · refine r_iconst C 13 (-1) (by decide) dX11_end_12 rfl ?_
      exact r_iret C Rr dX11_end_13 (fun _ => rfl) rfl
    · refine r_aload_n C 15 0 rfl dX11_end_14 rfl ?_
      refine r_iload_n C 16 1 rfl dX11_end_15 rfl ?_
      refine r_putI C 19 dX11_end_16 flX11_13 kt_0 rfl rfl (fun h_3 => ?_)
      refine r_iload_n C 20 1 rfl dX11_end_19 rfl ?_
      exact r_iret C Rr dX11_end_20 (fun _ => rfl) rfl
set_option maxHeartbeats 4000000 in
theorem ok_f_X11_end (x1 : Int32)  (h : CH) : ∀ q, f_X11_end x1 h = some q → MG yX11_end cX11_end 2 (some .int) [] 1 (fun ad => [.ref (ad 0), .int x1]) h ((fun (q : Int32 × CH) (_ : Nat → Nat) => some (Value.int q.1)) q) ((fun (q : (Int32 × CH)) => q.2) q) := mg_of RX11 (by decide) rfl (fun _ => Nat.le_of_ble_eq_true rfl) (fun κ C Rr => imp_f_X11_end C x1 h Rr)
set_option maxHeartbeats 4000000 in
set_option maxRecDepth 100000 in
theorem imp_f_X11_fault {κ : Kx Int32} (C : Cx κ cX11_fault RX11 2 1 (40 * 1) []) (x1 : Int32)  (h : CH) (Rr : Rt κ (some .int) (fun (x : Int32) (_ : Nat → Nat) => some (Value.int x)) (fun (_ : Int32) => h)) : Imp κ 0 [(0, .ref (kad κ 0)), (1, .int (x1))] [] h (f_X11_fault x1 h) := by
  unfold f_X11_fault
  refine r_iload_n C 1 1 rfl dX11_fault_0 rfl ?_
  refine imp_ite (fun g_1 => ?_) (fun g_1 => ?_)
  · refine r_lookup C 28 dX11_fault_1 rfl (by rw [g_1]) (by decide) ?_
    refine r_aload_n C 29 0 rfl dX11_fault_28 rfl ?_
    refine r_getI C 32 dX11_fault_29 flX11_17 kt_0 rfl rfl ?_
    exact r_iret C Rr dX11_fault_32 (fun _ => rfl) rfl
  · refine imp_ite (fun g_2 => ?_) (fun g_2 => ?_)
    · refine r_lookup C 33 dX11_fault_1 rfl (by rw [g_2]) (by decide) ?_
      refine r_aload_n C 34 0 rfl dX11_fault_33 rfl ?_
      refine r_getI C 37 dX11_fault_34 flX11_20 kt_0 rfl rfl ?_
      exact r_iret C Rr dX11_fault_37 (fun _ => rfl) rfl
    · refine r_lookup C 38 dX11_fault_1 rfl (lk_none (by intro q hq e; simp only [List.mem_cons, List.not_mem_nil, or_false] at hq; rcases hq with rfl | rfl; (exact g_1 (i32_of e (by decide))); (exact g_2 (i32_of e (by decide))))) (by decide) ?_
      refine r_iconst C 39 (-1) (by decide) dX11_fault_38 rfl ?_
      exact r_iret C Rr dX11_fault_39 (fun _ => rfl) rfl
set_option maxHeartbeats 4000000 in
theorem ok_f_X11_fault (x1 : Int32)  (h : CH) : ∀ q, f_X11_fault x1 h = some q → MG yX11_fault cX11_fault 2 (some .int) [] 1 (fun ad => [.ref (ad 0), .int x1]) h ((fun (x : Int32) (_ : Nat → Nat) => some (Value.int x)) q) ((fun (_ : Int32) => h) q) := mg_of RX11 (by decide) rfl (fun _ => Nat.le_of_ble_eq_true rfl) (fun κ C Rr => imp_f_X11_fault C x1 h Rr)
set_option maxHeartbeats 4000000 in
set_option maxRecDepth 100000 in
theorem imp_f_X9_has_7 {κ : Kx Int32} (C : Cx κ cX9_has RX9 2 1 (40 * 1) []) (x1 : Int32)  (h : CH) (Rr : Rt κ (some .boolean) (fun (x : Int32) (_ : Nat → Nat) => some (Value.int x)) (fun (_ : Int32) => h)) : Imp κ 0 [(0, .ref (kad κ 7)), (1, .int (x1))] [] h (f_X9_has_7 x1 h) := by
  unfold f_X9_has_7
  refine r_iload_n C 1 1 rfl dX9_has_0 rfl ?_
  refine r_if_lt C 4 22 dX9_has_1 (by decide) rfl (fun c_1 => ?_) (fun c_1 => ?_)
  · refine r_iconst C 23 (nI 0) (by decide) dX9_has_22 rfl ?_
    exact r_zret C Rr (by decide) dX9_has_23 (fun _ => rfl) rfl
  · refine r_iload_n C 5 1 rfl dX9_has_4 rfl ?_
    refine r_aload_n C 6 0 rfl dX9_has_5 rfl ?_
    refine r_getI C 9 dX9_has_6 flX9_18 kt_7 rfl rfl ?_
    refine r_icmp_ge C 12 22 dX9_has_9 (by decide) rfl (fun c_2 => ?_) (fun c_2 => ?_)
    · refine r_iload_n C 13 1 rfl dX9_has_12 rfl ?_
      refine r_bipush C 15 (nI 16) (by decide) dX9_has_13 rfl ?_
      refine r_icmp_ge C 18 22 dX9_has_15 (by decide) rfl (fun c_3 => ?_) (fun c_3 => ?_)
      · refine r_iconst C 19 (nI 1) (by decide) dX9_has_18 rfl ?_
        refine r_goto C 23 dX9_has_19 (by decide) ?_
        exact r_zret C Rr (by decide) dX9_has_23 (fun _ => rfl) rfl
      · refine r_iconst C 23 (nI 0) (by decide) dX9_has_22 rfl ?_
        exact r_zret C Rr (by decide) dX9_has_23 (fun _ => rfl) rfl
    · refine r_iconst C 23 (nI 0) (by decide) dX9_has_22 rfl ?_
      exact r_zret C Rr (by decide) dX9_has_23 (fun _ => rfl) rfl
set_option maxHeartbeats 4000000 in
theorem ok_f_X9_has_7 (x1 : Int32)  (h : CH) : ∀ q, f_X9_has_7 x1 h = some q → MG yX9_has cX9_has 2 (some .boolean) [] 1 (fun ad => [.ref (ad 7), .int x1]) h ((fun (x : Int32) (_ : Nat → Nat) => some (Value.int x)) q) ((fun (_ : Int32) => h) q) := mg_of RX9 (by decide) rfl (fun _ => Nat.le_of_ble_eq_true rfl) (fun κ C Rr => imp_f_X9_has_7 C x1 h Rr)
set_option maxHeartbeats 4000000 in
set_option maxRecDepth 100000 in
theorem imp_f_X11_isYear {κ : Kx Int32} (C : Cx κ cX11_isYear RX11 1 1 (40 * 1) []) (x0 : Int32)  (h : CH) (Rr : Rt κ (some .boolean) (fun (x : Int32) (_ : Nat → Nat) => some (Value.int x)) (fun (_ : Int32) => h)) : Imp κ 0 [(0, .int (x0))] [] h (f_X11_isYear x0 h) := by
  unfold f_X11_isYear
  refine r_iload_n C 1 0 rfl dX11_isYear_0 rfl ?_
  refine r_if_lt C 4 14 dX11_isYear_1 (by decide) rfl (fun c_1 => ?_) (fun c_1 => ?_)
  · refine r_iconst C 15 (nI 0) (by decide) dX11_isYear_14 rfl ?_
    exact r_zret C Rr (by decide) dX11_isYear_15 (fun _ => rfl) rfl
  · refine r_iload_n C 5 0 rfl dX11_isYear_4 rfl ?_
    refine r_bipush C 7 (nI 60) (by decide) dX11_isYear_5 rfl ?_
    refine r_icmp_gt C 10 14 dX11_isYear_7 (by decide) rfl (fun c_2 => ?_) (fun c_2 => ?_)
    · refine r_iconst C 15 (nI 0) (by decide) dX11_isYear_14 rfl ?_
      exact r_zret C Rr (by decide) dX11_isYear_15 (fun _ => rfl) rfl
    · refine r_iconst C 11 (nI 1) (by decide) dX11_isYear_10 rfl ?_
      refine r_goto C 15 dX11_isYear_11 (by decide) ?_
      exact r_zret C Rr (by decide) dX11_isYear_15 (fun _ => rfl) rfl
set_option maxHeartbeats 4000000 in
theorem ok_f_X11_isYear (x0 : Int32)  (h : CH) : ∀ q, f_X11_isYear x0 h = some q → MG yX11_isYear cX11_isYear 1 (some .boolean) [] 1 (fun ad => [.int x0]) h ((fun (x : Int32) (_ : Nat → Nat) => some (Value.int x)) q) ((fun (_ : Int32) => h) q) := mg_of RX11 (by decide) rfl (fun _ => Nat.le_of_ble_eq_true rfl) (fun κ C Rr => imp_f_X11_isYear C x0 h Rr)
set_option maxHeartbeats 4000000 in
set_option maxRecDepth 100000 in
theorem imp_f_X9_measureIn_7 {κ : Kx Int32} (C : Cx κ cX9_measureIn RX9 6 2 (40 * 2) []) (x1 : Int32) (x2 : Int32) (x3 : Int32)  (h : CH) (Rr : Rt κ (some .int) (fun (x : Int32) (_ : Nat → Nat) => some (Value.int x)) (fun (_ : Int32) => h)) : Imp κ 0 [(0, .ref (kad κ 7)), (1, .int (x1)), (2, .int (x2)), (3, .int (x3))] [] h (f_X9_measureIn_7 x1 x2 x3 h) := by
  unfold f_X9_measureIn_7
  refine r_aload_n C 1 0 rfl dX9_measureIn_0 rfl ?_
  refine r_iload_n C 2 1 rfl dX9_measureIn_1 rfl ?_
  refine r_cVpI C 5 [] (ok_f_X9_has_7 x1 h) dX9_measureIn_2 lvX9_59 kt_7 rfl rfl rfl (by decide) (Nat.le_of_ble_eq_true rfl) rfl rfl (Nat.le_of_ble_eq_true rfl) rfl rfl (fun v_1 => ?_)
  refine r_if_eq C 8 18 dX9_measureIn_5 (by decide) rfl (fun c_2 => ?_) (fun c_2 => ?_)
  · refine r_iconst C 19 (nI 0) (by decide) dX9_measureIn_18 rfl ?_
    exact r_iret C Rr dX9_measureIn_19 (fun _ => rfl) rfl
  · refine r_iload_n C 9 2 rfl dX9_measureIn_8 rfl ?_
    refine r_if_lt C 12 18 dX9_measureIn_9 (by decide) rfl (fun c_3 => ?_) (fun c_3 => ?_)
    · refine r_iconst C 19 (nI 0) (by decide) dX9_measureIn_18 rfl ?_
      exact r_iret C Rr dX9_measureIn_19 (fun _ => rfl) rfl
    · refine r_iload_n C 13 2 rfl dX9_measureIn_12 rfl ?_
      refine r_bipush C 15 (nI 8) (by decide) dX9_measureIn_13 rfl ?_
      refine r_icmp_lt C 18 20 dX9_measureIn_15 (by decide) rfl (fun c_4 => ?_) (fun c_4 => ?_)
      · refine r_aload_n C 21 0 rfl dX9_measureIn_20 rfl ?_
        refine r_getR C 24 dX9_measureIn_21 flX9_32 kt_7 rfl rf_7_6 rfl ?_
        refine r_iload_n C 25 1 rfl dX9_measureIn_24 rfl ?_
        refine r_iald C 26 dX9_measureIn_25 kt_10 rfl rfl (fun v_5 => ?_)
        refine r_iload_n C 27 3 rfl dX9_measureIn_26 rfl ?_
        refine r_imul C 28 dX9_measureIn_27 rfl ?_
        refine r_bipush C 30 (nI 10) (by decide) dX9_measureIn_28 rfl ?_
        refine r_idivk C 31 (by decide) dX9_measureIn_30 rfl ?_
        refine r_istore C 33 [(4, .int (((v_5) * (x3)) / ((nI 10)))), (0, .ref (kad κ 7)), (1, .int (x1)), (2, .int (x2)), (3, .int (x3))] dX9_measureIn_31 (by decide) rfl rfl ?_
        refine r_aload_n C 34 1 rfl dX9_measureIn_33 rfl ?_
        refine r_getR C 37 dX9_measureIn_34 flX9_37 kt_7 rfl rf_7_7 rfl ?_
        refine r_iload_n C 38 2 rfl dX9_measureIn_37 rfl ?_
        refine r_aald C 39 dX9_measureIn_38 kt_11 rfl rq_11 kq_11 rfl (fun q_6 hq_6 => ?_)
        refine r_iload_n C 40 3 rfl dX9_measureIn_39 rfl ?_
        refine r_iald C 41 dX9_measureIn_40 hq_6.1 (okid_lt hq_6.2) rfl (fun v_7 => ?_)
        refine r_iload_n C 42 3 rfl dX9_measureIn_41 rfl ?_
        refine r_iconst C 43 (nI 2) (by decide) dX9_measureIn_42 rfl ?_
        refine r_iremk C 44 (by decide) dX9_measureIn_43 rfl ?_
        refine imp_jn (fun (j_10 : Int32 → Int32 → Option Int32) => ∀ (s_8 : Int32) (s_9 : Int32), Imp κ 55 [] [.int (s_8), .int (s_9)] h (j_10 s_8 s_9)) ?_ ?_
        · intro s_8 s_9
          refine r_iadd C 56 dX9_measureIn_55 rfl ?_
          refine r_istore C 58 [(5, .int ((s_9) + (s_8)))] dX9_measureIn_56 (by decide) rfl rfl ?_
          refine r_iconst C 59 (nI 0) (by decide) dX9_measureIn_58 rfl ?_
          refine r_bipush C 61 (nI 99) (by decide) dX9_measureIn_59 rfl ?_
          refine r_iload C 63 0 rfl dX9_measureIn_61 rfl ?_
          refine r_mmin C 66 dX9_measureIn_63 lmX9_67 (Nat.le_of_ble_eq_true rfl) (by decide) rfl ?_
          refine r_mmax C 69 dX9_measureIn_66 lmX9_73 (Nat.le_of_ble_eq_true rfl) (by decide) rfl ?_
          exact r_iret C Rr dX9_measureIn_69 (fun _ => rfl) rfl
        · intro j_10 hj_10
          refine r_if_ne C 47 52 dX9_measureIn_44 (by decide) rfl (fun c_11 => ?_) (fun c_11 => ?_)
          · refine r_iload C 49 0 rfl dX9_measureIn_47 rfl ?_
            refine r_goto C 55 dX9_measureIn_49 (by decide) ?_
            exact imp_sub [] [] rfl (hj_10 (((v_5) * (x3)) / ((nI 10))) (v_7))
          · refine r_iload C 54 0 rfl dX9_measureIn_52 rfl ?_
            refine r_ineg C 55 dX9_measureIn_54 rfl ?_
            exact imp_sub [] [] rfl (hj_10 (-(((v_5) * (x3)) / ((nI 10)))) (v_7))
      · refine r_iconst C 19 (nI 0) (by decide) dX9_measureIn_18 rfl ?_
        exact r_iret C Rr dX9_measureIn_19 (fun _ => rfl) rfl
set_option maxHeartbeats 4000000 in
theorem ok_f_X9_measureIn_7 (x1 : Int32) (x2 : Int32) (x3 : Int32)  (h : CH) : ∀ q, f_X9_measureIn_7 x1 x2 x3 h = some q → MG yX9_measureIn cX9_measureIn 6 (some .int) [] 2 (fun ad => [.ref (ad 7), .int x1, .int x2, .int x3]) h ((fun (x : Int32) (_ : Nat → Nat) => some (Value.int x)) q) ((fun (_ : Int32) => h) q) := mg_of RX9 (by decide) rfl (fun _ => Nat.le_of_ble_eq_true rfl) (fun κ C Rr => imp_f_X9_measureIn_7 C x1 x2 x3 h Rr)
set_option maxHeartbeats 4000000 in
set_option maxRecDepth 100000 in
theorem imp_f_X11_face {κ : Kx Int32} (C : Cx κ cX11_face RX11 4 3 (40 * 3) []) (x1 : Int32) (x2 : Int32) (x3 : Int32)  (h : CH) (Rr : Rt κ (some .int) (fun (x : Int32) (_ : Nat → Nat) => some (Value.int x)) (fun (_ : Int32) => h)) : Imp κ 0 [(0, .ref (kad κ 0)), (1, .int (x1)), (2, .int (x2)), (3, .int (x3))] [] h (f_X11_face x1 x2 x3 h) := by
  unfold f_X11_face
  refine r_aload_n C 1 0 rfl dX11_face_0 rfl ?_
  refine r_getR C 4 dX11_face_1 flX11_35 kt_0 rfl rf_0_5 rfl ?_
  refine r_iload_n C 5 1 rfl dX11_face_4 rfl ?_
  refine r_cVpI C 8 [] (ok_f_X9_has_7 x1 h) dX11_face_5 lvX11_160 kt_7 rfl rfl rfl (by decide) (Nat.le_of_ble_eq_true rfl) rfl rfl (Nat.le_of_ble_eq_true rfl) rfl rfl (fun v_1 => ?_)
  refine r_if_eq C 11 33 dX11_face_8 (by decide) rfl (fun c_2 => ?_) (fun c_2 => ?_)
  · refine r_iconst C 34 (-1) (by decide) dX11_face_33 rfl ?_
    exact r_iret C Rr dX11_face_34 (fun _ => rfl) rfl
  · refine r_iload_n C 12 2 rfl dX11_face_11 rfl ?_
    refine r_if_lt C 15 33 dX11_face_12 (by decide) rfl (fun c_3 => ?_) (fun c_3 => ?_)
    · refine r_iconst C 34 (-1) (by decide) dX11_face_33 rfl ?_
      exact r_iret C Rr dX11_face_34 (fun _ => rfl) rfl
    · refine r_iload_n C 16 2 rfl dX11_face_15 rfl ?_
      refine r_aload_n C 17 0 rfl dX11_face_16 rfl ?_
      refine r_getR C 20 dX11_face_17 flX11_35 kt_0 rfl rf_0_5 rfl ?_
      refine r_getI C 23 dX11_face_20 flX11_144 kt_7 rfl rfl ?_
      refine r_icmp_ge C 26 33 dX11_face_23 (by decide) rfl (fun c_4 => ?_) (fun c_4 => ?_)
      · refine r_iload_n C 27 3 rfl dX11_face_26 rfl ?_
        refine r_cSpI C 30 [] (ok_f_X11_isYear x3 h) dX11_face_27 lsX11_164 rfl (by decide) (Nat.le_of_ble_eq_true rfl) rfl rfl (Nat.le_of_ble_eq_true rfl) rfl rfl (fun v_5 => ?_)
        refine r_if_ne C 33 35 dX11_face_30 (by decide) rfl (fun c_6 => ?_) (fun c_6 => ?_)
        · refine r_iconst C 34 (-1) (by decide) dX11_face_33 rfl ?_
          exact r_iret C Rr dX11_face_34 (fun _ => rfl) rfl
        · refine r_aload_n C 36 0 rfl dX11_face_35 rfl ?_
          refine r_getR C 39 dX11_face_36 flX11_35 kt_0 rfl rf_0_5 rfl ?_
          refine r_iload_n C 40 1 rfl dX11_face_39 rfl ?_
          refine r_iload_n C 41 2 rfl dX11_face_40 rfl ?_
          refine r_iload_n C 42 3 rfl dX11_face_41 rfl ?_
          refine r_cVpI C 45 [] (ok_f_X9_measureIn_7 x1 x2 x3 h) dX11_face_42 lvX11_167 kt_7 rfl rfl rfl (by decide) (Nat.le_of_ble_eq_true rfl) rfl rfl (Nat.le_of_ble_eq_true rfl) rfl rfl (fun v_7 => ?_)
          exact r_iret C Rr dX11_face_45 (fun _ => rfl) rfl
      · refine r_iconst C 34 (-1) (by decide) dX11_face_33 rfl ?_
        exact r_iret C Rr dX11_face_34 (fun _ => rfl) rfl
set_option maxHeartbeats 4000000 in
theorem ok_f_X11_face (x1 : Int32) (x2 : Int32) (x3 : Int32)  (h : CH) : ∀ q, f_X11_face x1 x2 x3 h = some q → MG yX11_face cX11_face 4 (some .int) [] 3 (fun ad => [.ref (ad 0), .int x1, .int x2, .int x3]) h ((fun (x : Int32) (_ : Nat → Nat) => some (Value.int x)) q) ((fun (_ : Int32) => h) q) := mg_of RX11 (by decide) rfl (fun _ => Nat.le_of_ble_eq_true rfl) (fun κ C Rr => imp_f_X11_face C x1 x2 x3 h Rr)
set_option maxHeartbeats 4000000 in
set_option maxRecDepth 100000 in
theorem imp_f_X11_far_L45 {κ : Kx Int32} (C : Cx κ cX11_far RX11 7 3 (40 * 3) []) (x1 : Int32) (x2 : Int32) (x3 : Int32) (x4 : Int32) (h : CH)    (Rr : Rt κ (some .int) (fun (x : Int32) (_ : Nat → Nat) => some (Value.int x)) (fun (_ : Int32) => h)) : ∀ (n : Nat) (x5 : Int32) (x6 : Int32), Imp κ 45 [(0, .ref (kad κ 0)), (1, .int (x1)), (2, .int (x2)), (3, .int (x3)), (4, .int (x4)), (5, .int (x5)), (6, .int (x6))] [] h (f_X11_far_L45 x1 x2 x3 x4 h n x5 x6) := by
  intro n
  induction n with
  | zero => intros; exact imp_none
  | succ n ih =>
    intro x5 x6
    rw [f_X11_far_L45]
    refine r_iload C 47 6 rfl dX11_far_45 rfl ?_
    refine r_aload_n C 48 0 rfl dX11_far_47 rfl ?_
    refine r_getR C 51 dX11_far_48 flX11_35 kt_0 rfl rf_0_5 rfl ?_
    refine r_getI C 54 dX11_far_51 flX11_144 kt_7 rfl rfl ?_
    refine r_icmp_ge C 57 95 dX11_far_54 (by decide) rfl (fun c_9 => ?_) (fun c_9 => ?_)
    · refine r_iload C 59 5 rfl dX11_far_57 rfl ?_
      refine r_aload_n C 60 0 rfl dX11_far_59 rfl ?_
      refine r_getR C 63 dX11_far_60 flX11_35 kt_0 rfl rf_0_5 rfl ?_
      refine r_iload_n C 64 1 rfl dX11_far_63 rfl ?_
      refine r_iload C 66 6 rfl dX11_far_64 rfl ?_
      refine r_iload_n C 67 2 rfl dX11_far_66 rfl ?_
      refine r_cVpI C 70 [.int (x5)] (ok_f_X9_measureIn_7 x1 x6 x2 h) dX11_far_67 lvX11_167 kt_7 rfl rfl rfl (by decide) (Nat.le_of_ble_eq_true rfl) rfl rfl (Nat.le_of_ble_eq_true rfl) rfl rfl (fun v_10 => ?_)
      refine r_aload_n C 71 0 rfl dX11_far_70 rfl ?_
      refine r_getR C 74 dX11_far_71 flX11_35 kt_0 rfl rf_0_5 rfl ?_
      refine r_iload_n C 75 3 rfl dX11_far_74 rfl ?_
      refine r_iload C 77 6 rfl dX11_far_75 rfl ?_
      refine r_iload C 79 4 rfl dX11_far_77 rfl ?_
      refine r_cVpI C 82 [.int (v_10), .int (x5)] (ok_f_X9_measureIn_7 x3 x6 x4 h) dX11_far_79 lvX11_167 kt_7 rfl rfl rfl (by decide) (Nat.le_of_ble_eq_true rfl) rfl rfl (Nat.le_of_ble_eq_true rfl) rfl rfl (fun v_11 => ?_)
      refine r_isub C 83 dX11_far_82 rfl ?_
      refine r_mabs C 86 dX11_far_83 lmX11_171 (Nat.le_of_ble_eq_true rfl) (by decide) rfl ?_
      refine r_iadd C 87 dX11_far_86 rfl ?_
      refine r_istore C 89 [(5, .int ((x5) + (ab ((v_10) - (v_11))))), (0, .ref (kad κ 0)), (1, .int (x1)), (2, .int (x2)), (3, .int (x3)), (4, .int (x4)), (6, .int (x6))] dX11_far_87 (by decide) rfl rfl ?_
      refine r_iinc C 92 6 (nI 1) [(6, .int (x6 + (nI 1))), (5, .int ((x5) + (ab ((v_10) - (v_11))))), (0, .ref (kad κ 0)), (1, .int (x1)), (2, .int (x2)), (3, .int (x3)), (4, .int (x4))] dX11_far_89 rfl (by decide) (by decide) rfl rfl ?_
      refine r_goto C 45 dX11_far_92 (by decide) ?_
      exact imp_sub [(0, .ref (kad κ 0)), (1, .int (x1)), (2, .int (x2)), (3, .int (x3)), (4, .int (x4)), (5, .int ((x5) + (ab ((v_10) - (v_11))))), (6, .int (x6 + (nI 1)))] [2, 3, 4, 5, 6, 1, 0] rfl (ih ((x5) + (ab ((v_10) - (v_11)))) (x6 + (nI 1)))
    · refine r_iload C 97 5 rfl dX11_far_95 rfl ?_
      exact r_iret C Rr dX11_far_97 (fun _ => rfl) rfl
set_option maxHeartbeats 4000000 in
set_option maxRecDepth 100000 in
theorem imp_f_X11_far {κ : Kx Int32} (C : Cx κ cX11_far RX11 7 3 (40 * 3) []) (x1 : Int32) (x2 : Int32) (x3 : Int32) (x4 : Int32)  (h : CH) (Rr : Rt κ (some .int) (fun (x : Int32) (_ : Nat → Nat) => some (Value.int x)) (fun (_ : Int32) => h)) : Imp κ 0 [(0, .ref (kad κ 0)), (1, .int (x1)), (2, .int (x2)), (3, .int (x3)), (4, .int (x4))] [] h (f_X11_far x1 x2 x3 x4 h) := by
  unfold f_X11_far
  refine r_aload_n C 1 0 rfl dX11_far_0 rfl ?_
  refine r_getR C 4 dX11_far_1 flX11_35 kt_0 rfl rf_0_5 rfl ?_
  refine r_iload_n C 5 1 rfl dX11_far_4 rfl ?_
  refine r_cVpI C 8 [] (ok_f_X9_has_7 x1 h) dX11_far_5 lvX11_160 kt_7 rfl rfl rfl (by decide) (Nat.le_of_ble_eq_true rfl) rfl rfl (Nat.le_of_ble_eq_true rfl) rfl rfl (fun v_1 => ?_)
  refine r_if_eq C 11 37 dX11_far_8 (by decide) rfl (fun c_2 => ?_) (fun c_2 => ?_)
  · refine r_iconst C 38 (-1) (by decide) dX11_far_37 rfl ?_
    exact r_iret C Rr dX11_far_38 (fun _ => rfl) rfl
  · refine r_aload_n C 12 0 rfl dX11_far_11 rfl ?_
    refine r_getR C 15 dX11_far_12 flX11_35 kt_0 rfl rf_0_5 rfl ?_
    refine r_iload_n C 16 3 rfl dX11_far_15 rfl ?_
    refine r_cVpI C 19 [] (ok_f_X9_has_7 x3 h) dX11_far_16 lvX11_160 kt_7 rfl rfl rfl (by decide) (Nat.le_of_ble_eq_true rfl) rfl rfl (Nat.le_of_ble_eq_true rfl) rfl rfl (fun v_3 => ?_)
    refine r_if_eq C 22 37 dX11_far_19 (by decide) rfl (fun c_4 => ?_) (fun c_4 => ?_)
    · refine r_iconst C 38 (-1) (by decide) dX11_far_37 rfl ?_
      exact r_iret C Rr dX11_far_38 (fun _ => rfl) rfl
    · refine r_iload_n C 23 2 rfl dX11_far_22 rfl ?_
      refine r_cSpI C 26 [] (ok_f_X11_isYear x2 h) dX11_far_23 lsX11_164 rfl (by decide) (Nat.le_of_ble_eq_true rfl) rfl rfl (Nat.le_of_ble_eq_true rfl) rfl rfl (fun v_5 => ?_)
      refine r_if_eq C 29 37 dX11_far_26 (by decide) rfl (fun c_6 => ?_) (fun c_6 => ?_)
      · refine r_iconst C 38 (-1) (by decide) dX11_far_37 rfl ?_
        exact r_iret C Rr dX11_far_38 (fun _ => rfl) rfl
      · refine r_iload C 31 4 rfl dX11_far_29 rfl ?_
        refine r_cSpI C 34 [] (ok_f_X11_isYear x4 h) dX11_far_31 lsX11_164 rfl (by decide) (Nat.le_of_ble_eq_true rfl) rfl rfl (Nat.le_of_ble_eq_true rfl) rfl rfl (fun v_7 => ?_)
        refine r_if_ne C 37 39 dX11_far_34 (by decide) rfl (fun c_8 => ?_) (fun c_8 => ?_)
        · refine r_iconst C 38 (-1) (by decide) dX11_far_37 rfl ?_
          exact r_iret C Rr dX11_far_38 (fun _ => rfl) rfl
        · refine r_iconst C 40 (nI 0) (by decide) dX11_far_39 rfl ?_
          refine r_istore C 42 [(5, .int ((nI 0))), (0, .ref (kad κ 0)), (1, .int (x1)), (2, .int (x2)), (3, .int (x3)), (4, .int (x4))] dX11_far_40 (by decide) rfl rfl ?_
          refine r_iconst C 43 (nI 0) (by decide) dX11_far_42 rfl ?_
          refine r_istore C 45 [(6, .int ((nI 0))), (5, .int ((nI 0))), (0, .ref (kad κ 0)), (1, .int (x1)), (2, .int (x2)), (3, .int (x3)), (4, .int (x4))] dX11_far_43 (by decide) rfl rfl ?_
          refine imp_sub [(0, .ref (kad κ 0)), (1, .int (x1)), (2, .int (x2)), (3, .int (x3)), (4, .int (x4)), (5, .int ((nI 0))), (6, .int ((nI 0)))] [2, 3, 4, 5, 6, 1, 0] rfl ?_
          refine imp_f_X11_far_L45 C (x1) (x2) (x3) (x4) h Rr FU ((nI 0)) ((nI 0))
set_option maxHeartbeats 4000000 in
theorem ok_f_X11_far (x1 : Int32) (x2 : Int32) (x3 : Int32) (x4 : Int32)  (h : CH) : ∀ q, f_X11_far x1 x2 x3 x4 h = some q → MG yX11_far cX11_far 7 (some .int) [] 3 (fun ad => [.ref (ad 0), .int x1, .int x2, .int x3, .int x4]) h ((fun (x : Int32) (_ : Nat → Nat) => some (Value.int x)) q) ((fun (_ : Int32) => h) q) := mg_of RX11 (by decide) rfl (fun _ => Nat.le_of_ble_eq_true rfl) (fun κ C Rr => imp_f_X11_far C x1 x2 x3 x4 h Rr)
set_option maxHeartbeats 4000000 in
set_option maxRecDepth 100000 in
theorem imp_f_X11_isLight {κ : Kx Int32} (C : Cx κ cX11_isLight RX11 1 1 (40 * 1) []) (x0 : Int32)  (h : CH) (Rr : Rt κ (some .boolean) (fun (x : Int32) (_ : Nat → Nat) => some (Value.int x)) (fun (_ : Int32) => h)) : Imp κ 0 [(0, .int (x0))] [] h (f_X11_isLight x0 h) := by
  unfold f_X11_isLight
  refine r_iload_n C 1 0 rfl dX11_isLight_0 rfl ?_
  refine r_if_lt C 4 14 dX11_isLight_1 (by decide) rfl (fun c_1 => ?_) (fun c_1 => ?_)
  · refine r_iconst C 15 (nI 0) (by decide) dX11_isLight_14 rfl ?_
    exact r_zret C Rr (by decide) dX11_isLight_15 (fun _ => rfl) rfl
  · refine r_iload_n C 5 0 rfl dX11_isLight_4 rfl ?_
    refine r_bipush C 7 (nI 9) (by decide) dX11_isLight_5 rfl ?_
    refine r_icmp_gt C 10 14 dX11_isLight_7 (by decide) rfl (fun c_2 => ?_) (fun c_2 => ?_)
    · refine r_iconst C 15 (nI 0) (by decide) dX11_isLight_14 rfl ?_
      exact r_zret C Rr (by decide) dX11_isLight_15 (fun _ => rfl) rfl
    · refine r_iconst C 11 (nI 1) (by decide) dX11_isLight_10 rfl ?_
      refine r_goto C 15 dX11_isLight_11 (by decide) ?_
      exact r_zret C Rr (by decide) dX11_isLight_15 (fun _ => rfl) rfl
set_option maxHeartbeats 4000000 in
theorem ok_f_X11_isLight (x0 : Int32)  (h : CH) : ∀ q, f_X11_isLight x0 h = some q → MG yX11_isLight cX11_isLight 1 (some .boolean) [] 1 (fun ad => [.int x0]) h ((fun (x : Int32) (_ : Nat → Nat) => some (Value.int x)) q) ((fun (_ : Int32) => h) q) := mg_of RX11 (by decide) rfl (fun _ => Nat.le_of_ble_eq_true rfl) (fun κ C Rr => imp_f_X11_isLight C x0 h Rr)
set_option maxHeartbeats 4000000 in
set_option maxRecDepth 100000 in
theorem imp_f_X11_isWhen {κ : Kx Int32} (C : Cx κ cX11_isWhen RX11 2 2 (40 * 2) []) (x0 : Int32) (x1 : Int32)  (h : CH) (Rr : Rt κ (some .boolean) (fun (x : Int32) (_ : Nat → Nat) => some (Value.int x)) (fun (_ : Int32) => h)) : Imp κ 0 [(0, .int (x0)), (1, .int (x1))] [] h (f_X11_isWhen x0 x1 h) := by
  unfold f_X11_isWhen
  refine r_iload_n C 1 0 rfl dX11_isWhen_0 rfl ?_
  refine r_cSpI C 4 [] (ok_f_X11_isYear x0 h) dX11_isWhen_1 lsX11_164 rfl (by decide) (Nat.le_of_ble_eq_true rfl) rfl rfl (Nat.le_of_ble_eq_true rfl) rfl rfl (fun v_1 => ?_)
  refine r_if_eq C 7 18 dX11_isWhen_4 (by decide) rfl (fun c_2 => ?_) (fun c_2 => ?_)
  · refine r_iconst C 19 (nI 0) (by decide) dX11_isWhen_18 rfl ?_
    exact r_zret C Rr (by decide) dX11_isWhen_19 (fun _ => rfl) rfl
  · refine r_iload_n C 8 1 rfl dX11_isWhen_7 rfl ?_
    refine r_cSpI C 11 [] (ok_f_X11_isLight x1 h) dX11_isWhen_8 lsX11_220 rfl (by decide) (Nat.le_of_ble_eq_true rfl) rfl rfl (Nat.le_of_ble_eq_true rfl) rfl rfl (fun v_3 => ?_)
    refine r_if_eq C 14 18 dX11_isWhen_11 (by decide) rfl (fun c_4 => ?_) (fun c_4 => ?_)
    · refine r_iconst C 19 (nI 0) (by decide) dX11_isWhen_18 rfl ?_
      exact r_zret C Rr (by decide) dX11_isWhen_19 (fun _ => rfl) rfl
    · refine r_iconst C 15 (nI 1) (by decide) dX11_isWhen_14 rfl ?_
      refine r_goto C 19 dX11_isWhen_15 (by decide) ?_
      exact r_zret C Rr (by decide) dX11_isWhen_19 (fun _ => rfl) rfl
set_option maxHeartbeats 4000000 in
theorem ok_f_X11_isWhen (x0 : Int32) (x1 : Int32)  (h : CH) : ∀ q, f_X11_isWhen x0 x1 h = some q → MG yX11_isWhen cX11_isWhen 2 (some .boolean) [] 2 (fun ad => [.int x0, .int x1]) h ((fun (x : Int32) (_ : Nat → Nat) => some (Value.int x)) q) ((fun (_ : Int32) => h) q) := mg_of RX11 (by decide) rfl (fun _ => Nat.le_of_ble_eq_true rfl) (fun κ C Rr => imp_f_X11_isWhen C x0 x1 h Rr)
set_option maxHeartbeats 4000000 in
set_option maxRecDepth 100000 in
theorem imp_f_X1_open_L32 {κ : Kx (Unit × CH)} (C : Cx κ cX1_open RX1 5 3 (40 * 3) []) (x3 : Int32)  (k110 : CH → Option (Unit × CH)) (hk110 : ∀ (h_5 : CH), Imp κ 110 [(0, .ref (kad κ 81)), (3, .int (x3))] [] h_5 (k110 h_5)) (Rr : Rt κ none (fun (_ : Unit × CH) (_ : Nat → Nat) => (none : Option Value)) (fun (q : (Unit × CH)) => q.2)) : ∀ (n : Nat) (x4 : Int32) (h : CH), Imp κ 32 [(0, .ref (kad κ 81)), (3, .int (x3)), (4, .int (x4))] [] h (f_X1_open_L32 x3 k110 n x4 h) := by
  intro n
  induction n with
  | zero => intros; exact imp_none
  | succ n ih =>
    intro x4 h
    rw [f_X1_open_L32]
    refine r_iload C 34 2 rfl dX1_open_32 rfl ?_
    refine r_aload_n C 35 0 rfl dX1_open_34 rfl ?_
    refine r_getR C 38 dX1_open_35 flX1_30 kt_81 rfl rf_81_0 rfl ?_
    refine r_getI C 41 dX1_open_38 flX1_43 kt_7 rfl rfl ?_
    refine r_icmp_ge C 44 110 dX1_open_41 (by decide) rfl (fun c_6 => ?_) (fun c_6 => ?_)
    · refine r_iload C 46 2 rfl dX1_open_44 rfl ?_
      refine r_bipush C 48 (nI 8) (by decide) dX1_open_46 rfl ?_
      refine r_icmp_ge C 51 110 dX1_open_48 (by decide) rfl (fun c_7 => ?_) (fun c_7 => ?_)
      · refine r_aload_n C 52 0 rfl dX1_open_51 rfl ?_
        refine r_getR C 55 dX1_open_52 flX1_11 kt_81 rfl rf_81_2 rfl ?_
        refine r_iload_n C 56 1 rfl dX1_open_55 rfl ?_
        refine r_aald C 57 dX1_open_56 kt_82 rfl rq_82 kq_82 rfl (fun q_8 hq_8 => ?_)
        refine r_iload C 59 2 rfl dX1_open_57 rfl ?_
        refine r_bipush C 61 (nI 99) (by decide) dX1_open_59 rfl ?_
        refine r_aload_n C 62 0 rfl dX1_open_61 rfl ?_
        refine r_getR C 65 dX1_open_62 flX1_30 kt_81 rfl rf_81_0 rfl ?_
        refine r_iload_n C 66 1 rfl dX1_open_65 rfl ?_
        refine r_iload C 68 2 rfl dX1_open_66 rfl ?_
        refine r_aload_n C 69 0 rfl dX1_open_68 rfl ?_
        refine r_getI C 72 dX1_open_69 flX1_23 kt_81 rfl rfl ?_
        refine r_cVpI C 75 [.int ((nI 99)), .int (x4), .ref (kad κ q_8)] (ok_f_X9_measureIn_7 x3 x4 (h.1 81 5) h) dX1_open_72 lvX1_46 kt_7 rfl rfl rfl (by decide) (Nat.le_of_ble_eq_true rfl) rfl rfl (Nat.le_of_ble_eq_true rfl) rfl rfl (fun v_9 => ?_)
        refine r_aload_n C 76 0 rfl dX1_open_75 rfl ?_
        refine r_getI C 79 dX1_open_76 flX1_27 kt_81 rfl rfl ?_
        refine r_iadd C 80 dX1_open_79 rfl ?_
        refine r_mmin C 83 dX1_open_80 lmX1_50 (Nat.le_of_ble_eq_true rfl) (by decide) rfl ?_
        refine r_iast C 84 dX1_open_83 hq_8.1 (okid_lt hq_8.2) rfl (fun h_10 => ?_)
        refine r_aload_n C 85 0 rfl dX1_open_84 rfl ?_
        refine r_getR C 88 dX1_open_85 flX1_16 kt_81 rfl rf_81_3 rfl ?_
        refine r_iload_n C 89 1 rfl dX1_open_88 rfl ?_
        refine r_aald C 90 dX1_open_89 kt_99 rfl rq_99 kq_99 rfl (fun q_11 hq_11 => ?_)
        refine r_iload C 92 2 rfl dX1_open_90 rfl ?_
        refine r_aload_n C 93 0 rfl dX1_open_92 rfl ?_
        refine r_getR C 96 dX1_open_93 flX1_30 kt_81 rfl rf_81_0 rfl ?_
        refine r_iload_n C 97 1 rfl dX1_open_96 rfl ?_
        refine r_iload C 99 2 rfl dX1_open_97 rfl ?_
        refine r_iconst C 100 (nI 0) (by decide) dX1_open_99 rfl ?_
        refine r_cVpI C 103 [.int (x4), .ref (kad κ q_11)] (ok_f_X9_measureIn_7 x3 x4 ((nI 0)) h_10) dX1_open_100 lvX1_46 kt_7 rfl rfl rfl (by decide) (Nat.le_of_ble_eq_true rfl) rfl rfl (Nat.le_of_ble_eq_true rfl) rfl rfl (fun v_12 => ?_)
        refine r_iast C 104 dX1_open_103 hq_11.1 (okid_lt hq_11.2) rfl (fun h_13 => ?_)
        refine r_iinc C 107 2 (nI 1) [(4, .int (x4 + (nI 1))), (0, .ref (kad κ 81)), (3, .int (x3))] dX1_open_104 rfl (by decide) (by decide) rfl rfl ?_
        refine r_goto C 32 dX1_open_107 (by decide) ?_
        exact imp_sub [(0, .ref (kad κ 81)), (3, .int (x3)), (4, .int (x4 + (nI 1)))] [1, 2, 0] rfl (ih (x4 + (nI 1)) h_13)
      · exact imp_sub [(0, .ref (kad κ 81)), (3, .int (x3))] [0, 1] rfl (hk110 h)
    · exact imp_sub [(0, .ref (kad κ 81)), (3, .int (x3))] [0, 1] rfl (hk110 h)
set_option maxHeartbeats 4000000 in
set_option maxRecDepth 100000 in
theorem imp_f_X1_open_L12 {κ : Kx (Unit × CH)} (C : Cx κ cX1_open RX1 5 3 (40 * 3) [])     (Rr : Rt κ none (fun (_ : Unit × CH) (_ : Nat → Nat) => (none : Option Value)) (fun (q : (Unit × CH)) => q.2)) : ∀ (n : Nat) (x3 : Int32) (h : CH), Imp κ 12 [(0, .ref (kad κ 81)), (3, .int (x3))] [] h (f_X1_open_L12 n x3 h) := by
  intro n
  induction n with
  | zero => intros; exact imp_none
  | succ n ih =>
    intro x3 h
    rw [f_X1_open_L12]
    refine r_iload_n C 13 1 rfl dX1_open_12 rfl ?_
    refine r_aload_n C 14 0 rfl dX1_open_13 rfl ?_
    refine r_getR C 17 dX1_open_14 flX1_30 kt_81 rfl rf_81_0 rfl ?_
    refine r_getI C 20 dX1_open_17 flX1_38 kt_7 rfl rfl ?_
    refine r_icmp_ge C 23 116 dX1_open_20 (by decide) rfl (fun c_3 => ?_) (fun c_3 => ?_)
    · refine r_iload_n C 24 1 rfl dX1_open_23 rfl ?_
      refine r_bipush C 26 (nI 16) (by decide) dX1_open_24 rfl ?_
      refine r_icmp_ge C 29 116 dX1_open_26 (by decide) rfl (fun c_4 => ?_) (fun c_4 => ?_)
      · refine r_iconst C 30 (nI 0) (by decide) dX1_open_29 rfl ?_
        refine r_istore C 32 [(4, .int ((nI 0))), (0, .ref (kad κ 81)), (3, .int (x3))] dX1_open_30 (by decide) rfl rfl ?_
        refine imp_sub [(0, .ref (kad κ 81)), (3, .int (x3)), (4, .int ((nI 0)))] [1, 2, 0] rfl ?_
        refine imp_f_X1_open_L32 C (x3) _ ?_ Rr FU ((nI 0)) h
        · intro h_5
          refine r_iinc C 113 1 (nI 1) [(3, .int (x3 + (nI 1))), (0, .ref (kad κ 81))] dX1_open_110 rfl (by decide) (by decide) rfl rfl ?_
          refine r_goto C 12 dX1_open_113 (by decide) ?_
          exact imp_sub [(0, .ref (kad κ 81)), (3, .int (x3 + (nI 1)))] [1, 0] rfl (ih (x3 + (nI 1)) h_5)
      · exact r_vret C Rr dX1_open_116 (fun _ => rfl) rfl
    · exact r_vret C Rr dX1_open_116 (fun _ => rfl) rfl
set_option maxHeartbeats 4000000 in
set_option maxRecDepth 100000 in
theorem imp_f_X1_open {κ : Kx (Unit × CH)} (C : Cx κ cX1_open RX1 5 3 (40 * 3) []) (x1 : Int32) (x2 : Int32)  (h : CH) (Rr : Rt κ none (fun (_ : Unit × CH) (_ : Nat → Nat) => (none : Option Value)) (fun (q : (Unit × CH)) => q.2)) : Imp κ 0 [(0, .ref (kad κ 81)), (1, .int (x1)), (2, .int (x2))] [] h (f_X1_open x1 x2 h) := by
  unfold f_X1_open
  refine r_aload_n C 1 0 rfl dX1_open_0 rfl ?_
  refine r_iload_n C 2 1 rfl dX1_open_1 rfl ?_
  refine r_putI C 5 dX1_open_2 flX1_23 kt_81 rfl rfl (fun h_1 => ?_)
  refine r_aload_n C 6 0 rfl dX1_open_5 rfl ?_
  refine r_iload_n C 7 2 rfl dX1_open_6 rfl ?_
  refine r_putI C 10 dX1_open_7 flX1_27 kt_81 rfl rfl (fun h_2 => ?_)
  refine r_iconst C 11 (nI 0) (by decide) dX1_open_10 rfl ?_
  refine r_istore_n C 12 3 [(3, .int ((nI 0))), (0, .ref (kad κ 81)), (1, .int (x1)), (2, .int (x2))] dX1_open_11 rfl (by decide) rfl rfl ?_
  refine imp_sub [(0, .ref (kad κ 81)), (3, .int ((nI 0)))] [1, 0] rfl ?_
  refine imp_f_X1_open_L12 C Rr FU ((nI 0)) h_2
set_option maxHeartbeats 4000000 in
theorem ok_f_X1_open (x1 : Int32) (x2 : Int32)  (h : CH) : ∀ q, f_X1_open x1 x2 h = some q → MG yX1_open cX1_open 5 none [] 3 (fun ad => [.ref (ad 81), .int x1, .int x2]) h ((fun (_ : Unit × CH) (_ : Nat → Nat) => (none : Option Value)) q) ((fun (q : (Unit × CH)) => q.2) q) := mg_of RX1 (by decide) rfl (fun _ => Nat.le_of_ble_eq_true rfl) (fun κ C Rr => imp_f_X1_open C x1 x2 h Rr)
set_option maxHeartbeats 4000000 in
set_option maxRecDepth 100000 in
theorem imp_f_X9_apart_7_L5 {κ : Kx Int32} (C : Cx κ cX9_apart RX9 5 2 (40 * 2) []) (q1 : Nat) (q2 : Nat) (h : CH) (hq1 : KT.getD q1 (9, 0) = (1, 8) ∧ q1 < NP) (hq2 : KT.getD q2 (9, 0) = (1, 8) ∧ q2 < NP)   (Rr : Rt κ (some .int) (fun (x : Int32) (_ : Nat → Nat) => some (Value.int x)) (fun (_ : Int32) => h)) : ∀ (n : Nat) (x3 : Int32) (x4 : Int32), Imp κ 5 [(0, .ref (kad κ 7)), (1, .ref (kad κ q1)), (2, .ref (kad κ q2)), (3, .int (x3)), (4, .int (x4))] [] h (f_X9_apart_7_L5 q1 q2 h n x3 x4) := by
  intro n
  induction n with
  | zero => intros; exact imp_none
  | succ n ih =>
    intro x3 x4
    rw [f_X9_apart_7_L5]
    refine r_iload C 7 4 rfl dX9_apart_5 rfl ?_
    refine r_aload_n C 8 0 rfl dX9_apart_7 rfl ?_
    refine r_getI C 11 dX9_apart_8 flX9_9 kt_7 rfl rfl ?_
    refine r_icmp_ge C 14 49 dX9_apart_11 (by decide) rfl (fun c_1 => ?_) (fun c_1 => ?_)
    · refine r_iload C 16 4 rfl dX9_apart_14 rfl ?_
      refine r_aload_n C 17 1 rfl dX9_apart_16 rfl ?_
      refine r_alenI C 18 (nI 8) dX9_apart_17 hq1.1 (okid_lt hq1.2) (by decide) rfl ?_
      refine r_icmp_ge C 21 49 dX9_apart_18 (by decide) rfl (fun c_2 => ?_) (fun c_2 => ?_)
      · refine r_iload C 23 4 rfl dX9_apart_21 rfl ?_
        refine r_aload_n C 24 2 rfl dX9_apart_23 rfl ?_
        refine r_alenI C 25 (nI 8) dX9_apart_24 hq2.1 (okid_lt hq2.2) (by decide) rfl ?_
        refine r_icmp_ge C 28 49 dX9_apart_25 (by decide) rfl (fun c_3 => ?_) (fun c_3 => ?_)
        · refine r_iload_n C 29 3 rfl dX9_apart_28 rfl ?_
          refine r_aload_n C 30 1 rfl dX9_apart_29 rfl ?_
          refine r_iload C 32 4 rfl dX9_apart_30 rfl ?_
          refine r_iald C 33 dX9_apart_32 hq1.1 (okid_lt hq1.2) rfl (fun v_4 => ?_)
          refine r_aload_n C 34 2 rfl dX9_apart_33 rfl ?_
          refine r_iload C 36 4 rfl dX9_apart_34 rfl ?_
          refine r_iald C 37 dX9_apart_36 hq2.1 (okid_lt hq2.2) rfl (fun v_5 => ?_)
          refine r_isub C 38 dX9_apart_37 rfl ?_
          refine r_mabs C 41 dX9_apart_38 lmX9_76 (Nat.le_of_ble_eq_true rfl) (by decide) rfl ?_
          refine r_iadd C 42 dX9_apart_41 rfl ?_
          refine r_istore_n C 43 3 [(3, .int ((x3) + (ab ((v_4) - (v_5))))), (0, .ref (kad κ 7)), (1, .ref (kad κ q1)), (2, .ref (kad κ q2)), (4, .int (x4))] dX9_apart_42 rfl (by decide) rfl rfl ?_
          refine r_iinc C 46 4 (nI 1) [(4, .int (x4 + (nI 1))), (3, .int ((x3) + (ab ((v_4) - (v_5))))), (0, .ref (kad κ 7)), (1, .ref (kad κ q1)), (2, .ref (kad κ q2))] dX9_apart_43 rfl (by decide) (by decide) rfl rfl ?_
          refine r_goto C 5 dX9_apart_46 (by decide) ?_
          exact imp_sub [(0, .ref (kad κ 7)), (1, .ref (kad κ q1)), (2, .ref (kad κ q2)), (3, .int ((x3) + (ab ((v_4) - (v_5))))), (4, .int (x4 + (nI 1)))] [2, 3, 4, 1, 0] rfl (ih ((x3) + (ab ((v_4) - (v_5)))) (x4 + (nI 1)))
        · refine r_iload_n C 50 3 rfl dX9_apart_49 rfl ?_
          exact r_iret C Rr dX9_apart_50 (fun _ => rfl) rfl
      · refine r_iload_n C 50 3 rfl dX9_apart_49 rfl ?_
        exact r_iret C Rr dX9_apart_50 (fun _ => rfl) rfl
    · refine r_iload_n C 50 3 rfl dX9_apart_49 rfl ?_
      exact r_iret C Rr dX9_apart_50 (fun _ => rfl) rfl
set_option maxHeartbeats 4000000 in
set_option maxRecDepth 100000 in
theorem imp_f_X9_apart_7 {κ : Kx Int32} (C : Cx κ cX9_apart RX9 5 2 (40 * 2) []) (ra : Nat) (rb : Nat) (hra : KT.getD ra (9, 0) = (1, 8) ∧ ra < NP) (hrb : KT.getD rb (9, 0) = (1, 8) ∧ rb < NP) (h : CH) (Rr : Rt κ (some .int) (fun (x : Int32) (_ : Nat → Nat) => some (Value.int x)) (fun (_ : Int32) => h)) : Imp κ 0 [(0, .ref (kad κ 7)), (1, .ref (kad κ ra)), (2, .ref (kad κ rb))] [] h (f_X9_apart_7 ra rb h) := by
  unfold f_X9_apart_7
  refine r_iconst C 1 (nI 0) (by decide) dX9_apart_0 rfl ?_
  refine r_istore_n C 2 3 [(3, .int ((nI 0))), (0, .ref (kad κ 7)), (1, .ref (kad κ ra)), (2, .ref (kad κ rb))] dX9_apart_1 rfl (by decide) rfl rfl ?_
  refine r_iconst C 3 (nI 0) (by decide) dX9_apart_2 rfl ?_
  refine r_istore C 5 [(4, .int ((nI 0))), (3, .int ((nI 0))), (0, .ref (kad κ 7)), (1, .ref (kad κ ra)), (2, .ref (kad κ rb))] dX9_apart_3 (by decide) rfl rfl ?_
  refine imp_sub [(0, .ref (kad κ 7)), (1, .ref (kad κ ra)), (2, .ref (kad κ rb)), (3, .int ((nI 0))), (4, .int ((nI 0)))] [2, 3, 4, 1, 0] rfl ?_
  refine imp_f_X9_apart_7_L5 C ra rb h hra hrb Rr FU ((nI 0)) ((nI 0))
set_option maxHeartbeats 4000000 in
theorem ok_f_X9_apart_7 (ra : Nat) (rb : Nat) (hra : KT.getD ra (9, 0) = (1, 8) ∧ ra < NP) (hrb : KT.getD rb (9, 0) = (1, 8) ∧ rb < NP) (h : CH) : ∀ q, f_X9_apart_7 ra rb h = some q → MG yX9_apart cX9_apart 5 (some .int) [] 2 (fun ad => [.ref (ad 7), .ref (ad ra), .ref (ad rb)]) h ((fun (x : Int32) (_ : Nat → Nat) => some (Value.int x)) q) ((fun (_ : Int32) => h) q) := mg_of RX9 (by decide) rfl (fun _ => Nat.le_of_ble_eq_true rfl) (fun κ C Rr => imp_f_X9_apart_7 C ra rb hra hrb h Rr)
set_option maxHeartbeats 4000000 in
set_option maxRecDepth 100000 in
theorem imp_f_X1_apartFromPicture {κ : Kx Int32} (C : Cx κ cX1_apartFromPicture RX1 3 3 (40 * 3) []) (x1 : Int32) (x2 : Int32)  (h : CH) (Rr : Rt κ (some .int) (fun (x : Int32) (_ : Nat → Nat) => some (Value.int x)) (fun (_ : Int32) => h)) : Imp κ 0 [(0, .ref (kad κ 81)), (1, .int (x1)), (2, .int (x2))] [] h (f_X1_apartFromPicture x1 x2 h) := by
  unfold f_X1_apartFromPicture
  refine r_aload_n C 1 0 rfl dX1_apartFromPicture_0 rfl ?_
  refine r_getR C 4 dX1_apartFromPicture_1 flX1_30 kt_81 rfl rf_81_0 rfl ?_
  refine r_iload_n C 5 1 rfl dX1_apartFromPicture_4 rfl ?_
  refine r_cVpI C 8 [] (ok_f_X9_has_7 x1 h) dX1_apartFromPicture_5 lvX1_56 kt_7 rfl rfl rfl (by decide) (Nat.le_of_ble_eq_true rfl) rfl rfl (Nat.le_of_ble_eq_true rfl) rfl rfl (fun v_1 => ?_)
  refine r_if_eq C 11 22 dX1_apartFromPicture_8 (by decide) rfl (fun c_2 => ?_) (fun c_2 => ?_)
  · refine r_iconst C 23 (nI 0) (by decide) dX1_apartFromPicture_22 rfl ?_
    exact r_iret C Rr dX1_apartFromPicture_23 (fun _ => rfl) rfl
  · refine r_aload_n C 12 0 rfl dX1_apartFromPicture_11 rfl ?_
    refine r_getR C 15 dX1_apartFromPicture_12 flX1_30 kt_81 rfl rf_81_0 rfl ?_
    refine r_iload_n C 16 2 rfl dX1_apartFromPicture_15 rfl ?_
    refine r_cVpI C 19 [] (ok_f_X9_has_7 x2 h) dX1_apartFromPicture_16 lvX1_56 kt_7 rfl rfl rfl (by decide) (Nat.le_of_ble_eq_true rfl) rfl rfl (Nat.le_of_ble_eq_true rfl) rfl rfl (fun v_3 => ?_)
    refine r_if_ne C 22 24 dX1_apartFromPicture_19 (by decide) rfl (fun c_4 => ?_) (fun c_4 => ?_)
    · refine r_iconst C 23 (nI 0) (by decide) dX1_apartFromPicture_22 rfl ?_
      exact r_iret C Rr dX1_apartFromPicture_23 (fun _ => rfl) rfl
    · refine r_aload_n C 25 0 rfl dX1_apartFromPicture_24 rfl ?_
      refine r_getR C 28 dX1_apartFromPicture_25 flX1_30 kt_81 rfl rf_81_0 rfl ?_
      refine r_aload_n C 29 0 rfl dX1_apartFromPicture_28 rfl ?_
      refine r_getR C 32 dX1_apartFromPicture_29 flX1_11 kt_81 rfl rf_81_2 rfl ?_
      refine r_iload_n C 33 1 rfl dX1_apartFromPicture_32 rfl ?_
      refine r_aald C 34 dX1_apartFromPicture_33 kt_82 rfl rq_82 kq_82 rfl (fun q_5 hq_5 => ?_)
      refine r_aload_n C 35 0 rfl dX1_apartFromPicture_34 rfl ?_
      refine r_getR C 38 dX1_apartFromPicture_35 flX1_16 kt_81 rfl rf_81_3 rfl ?_
      refine r_iload_n C 39 2 rfl dX1_apartFromPicture_38 rfl ?_
      refine r_aald C 40 dX1_apartFromPicture_39 kt_99 rfl rq_99 kq_99 rfl (fun q_6 hq_6 => ?_)
      refine r_cVpI C 43 [] (ok_f_X9_apart_7 q_5 q_6 hq_5 hq_6 h) dX1_apartFromPicture_40 lvX1_60 kt_7 rfl rfl rfl (by decide) (Nat.le_of_ble_eq_true rfl) rfl rfl (Nat.le_of_ble_eq_true rfl) rfl rfl (fun v_7 => ?_)
      exact r_iret C Rr dX1_apartFromPicture_43 (fun _ => rfl) rfl
set_option maxHeartbeats 4000000 in
theorem ok_f_X1_apartFromPicture (x1 : Int32) (x2 : Int32)  (h : CH) : ∀ q, f_X1_apartFromPicture x1 x2 h = some q → MG yX1_apartFromPicture cX1_apartFromPicture 3 (some .int) [] 3 (fun ad => [.ref (ad 81), .int x1, .int x2]) h ((fun (x : Int32) (_ : Nat → Nat) => some (Value.int x)) q) ((fun (_ : Int32) => h) q) := mg_of RX1 (by decide) rfl (fun _ => Nat.le_of_ble_eq_true rfl) (fun κ C Rr => imp_f_X1_apartFromPicture C x1 x2 h Rr)
set_option maxHeartbeats 4000000 in
set_option maxRecDepth 100000 in
theorem imp_f_X9_kindOf_7 {κ : Kx Int32} (C : Cx κ cX9_kindOf RX9 2 2 (40 * 2) []) (x1 : Int32)  (h : CH) (Rr : Rt κ (some .int) (fun (x : Int32) (_ : Nat → Nat) => some (Value.int x)) (fun (_ : Int32) => h)) : Imp κ 0 [(0, .ref (kad κ 7)), (1, .int (x1))] [] h (f_X9_kindOf_7 x1 h) := by
  unfold f_X9_kindOf_7
  refine r_aload_n C 1 0 rfl dX9_kindOf_0 rfl ?_
  refine r_iload_n C 2 1 rfl dX9_kindOf_1 rfl ?_
  refine r_cVpI C 5 [] (ok_f_X9_has_7 x1 h) dX9_kindOf_2 lvX9_59 kt_7 rfl rfl rfl (by decide) (Nat.le_of_ble_eq_true rfl) rfl rfl (Nat.le_of_ble_eq_true rfl) rfl rfl (fun v_1 => ?_)
  refine r_if_eq C 8 17 dX9_kindOf_5 (by decide) rfl (fun c_2 => ?_) (fun c_2 => ?_)
  · refine r_iconst C 18 (-1) (by decide) dX9_kindOf_17 rfl ?_
    exact r_iret C Rr dX9_kindOf_18 (fun _ => rfl) rfl
  · refine r_aload_n C 9 0 rfl dX9_kindOf_8 rfl ?_
    refine r_getR C 12 dX9_kindOf_9 flX9_28 kt_7 rfl rf_7_5 rfl ?_
    refine r_iload_n C 13 1 rfl dX9_kindOf_12 rfl ?_
    refine r_iald C 14 dX9_kindOf_13 kt_9 rfl rfl (fun v_3 => ?_)
    refine r_goto C 18 dX9_kindOf_14 (by decide) ?_
    exact r_iret C Rr dX9_kindOf_18 (fun _ => rfl) rfl
set_option maxHeartbeats 4000000 in
theorem ok_f_X9_kindOf_7 (x1 : Int32)  (h : CH) : ∀ q, f_X9_kindOf_7 x1 h = some q → MG yX9_kindOf cX9_kindOf 2 (some .int) [] 2 (fun ad => [.ref (ad 7), .int x1]) h ((fun (x : Int32) (_ : Nat → Nat) => some (Value.int x)) q) ((fun (_ : Int32) => h) q) := mg_of RX9 (by decide) rfl (fun _ => Nat.le_of_ble_eq_true rfl) (fun κ C Rr => imp_f_X9_kindOf_7 C x1 h Rr)
set_option maxHeartbeats 4000000 in
set_option maxRecDepth 100000 in
theorem imp_f_X5_valueAt_55 {κ : Kx Int32} (C : Cx κ cX5_valueAt RX5 2 1 (40 * 1) []) (x1 : Int32)  (h : CH) (Rr : Rt κ (some .int) (fun (x : Int32) (_ : Nat → Nat) => some (Value.int x)) (fun (_ : Int32) => h)) : Imp κ 0 [(0, .ref (kad κ 55)), (1, .int (x1))] [] h (f_X5_valueAt_55 x1 h) := by
  unfold f_X5_valueAt_55
  refine r_iload_n C 1 1 rfl dX5_valueAt_0 rfl ?_
  refine r_if_lt C 4 22 dX5_valueAt_1 (by decide) rfl (fun c_1 => ?_) (fun c_1 => ?_)
  · refine r_iconst C 23 (nI 0) (by decide) dX5_valueAt_22 rfl ?_
    exact r_iret C Rr dX5_valueAt_23 (fun _ => rfl) rfl
  · refine r_iload_n C 5 1 rfl dX5_valueAt_4 rfl ?_
    refine r_aload_n C 6 0 rfl dX5_valueAt_5 rfl ?_
    refine r_getR C 9 dX5_valueAt_6 flX5_48 kt_55 rfl rf_55_11 rfl ?_
    refine r_alenI C 10 (nI 12) dX5_valueAt_9 kt_61 rfl (by decide) rfl ?_
    refine r_icmp_ge C 13 22 dX5_valueAt_10 (by decide) rfl (fun c_2 => ?_) (fun c_2 => ?_)
    · refine r_aload_n C 14 0 rfl dX5_valueAt_13 rfl ?_
      refine r_getR C 17 dX5_valueAt_14 flX5_48 kt_55 rfl rf_55_11 rfl ?_
      refine r_iload_n C 18 1 rfl dX5_valueAt_17 rfl ?_
      refine r_iald C 19 dX5_valueAt_18 kt_61 rfl rfl (fun v_3 => ?_)
      refine r_goto C 23 dX5_valueAt_19 (by decide) ?_
      exact r_iret C Rr dX5_valueAt_23 (fun _ => rfl) rfl
    · refine r_iconst C 23 (nI 0) (by decide) dX5_valueAt_22 rfl ?_
      exact r_iret C Rr dX5_valueAt_23 (fun _ => rfl) rfl
set_option maxHeartbeats 4000000 in
theorem ok_f_X5_valueAt_55 (x1 : Int32)  (h : CH) : ∀ q, f_X5_valueAt_55 x1 h = some q → MG yX5_valueAt cX5_valueAt 2 (some .int) [] 1 (fun ad => [.ref (ad 55), .int x1]) h ((fun (x : Int32) (_ : Nat → Nat) => some (Value.int x)) q) ((fun (_ : Int32) => h) q) := mg_of RX5 (by decide) rfl (fun _ => Nat.le_of_ble_eq_true rfl) (fun κ C Rr => imp_f_X5_valueAt_55 C x1 h Rr)
set_option maxHeartbeats 4000000 in
set_option maxRecDepth 100000 in
theorem imp_f_X5_joined {κ : Kx Int32} (C : Cx κ cX5_joined RX5 3 1 (40 * 1) []) (x0 : Int32) (x1 : Int32) (x2 : Int32)  (h : CH) (Rr : Rt κ (some .int) (fun (x : Int32) (_ : Nat → Nat) => some (Value.int x)) (fun (_ : Int32) => h)) : Imp κ 0 [(0, .int (x0)), (1, .int (x1)), (2, .int (x2))] [] h (f_X5_joined x0 x1 x2 h) := by
  unfold f_X5_joined
  refine r_iload_n C 1 0 rfl dX5_joined_0 rfl ?_
  refine imp_ite (fun g_1 => ?_) (fun g_1 => ?_)
  · refine r_tsIn C 44 (nI 3) g_1 dX5_joined_1 (by decide) (by decide) rfl (by decide) ?_
    refine r_iload_n C 45 1 rfl dX5_joined_44 rfl ?_
    refine r_iload_n C 46 2 rfl dX5_joined_45 rfl ?_
    refine r_imul C 47 dX5_joined_46 rfl ?_
    exact r_iret C Rr dX5_joined_47 (fun _ => rfl) rfl
  · refine imp_ite (fun g_2 => ?_) (fun g_2 => ?_)
    · refine r_tsIn C 48 (nI 4) g_2 dX5_joined_1 (by decide) (by decide) rfl (by decide) ?_
      refine r_iload_n C 49 1 rfl dX5_joined_48 rfl ?_
      refine r_iload_n C 50 2 rfl dX5_joined_49 rfl ?_
      refine r_iadd C 51 dX5_joined_50 rfl ?_
      exact r_iret C Rr dX5_joined_51 (fun _ => rfl) rfl
    · refine imp_ite (fun g_3 => ?_) (fun g_3 => ?_)
      · refine r_tsIn C 52 (nI 5) g_3 dX5_joined_1 (by decide) (by decide) rfl (by decide) ?_
        refine r_iload_n C 53 1 rfl dX5_joined_52 rfl ?_
        refine r_iload_n C 54 2 rfl dX5_joined_53 rfl ?_
        refine r_isub C 55 dX5_joined_54 rfl ?_
        exact r_iret C Rr dX5_joined_55 (fun _ => rfl) rfl
      · refine imp_ite (fun g_4 => ?_) (fun g_4 => ?_)
        · refine r_tsIn C 56 (nI 6) g_4 dX5_joined_1 (by decide) (by decide) rfl (by decide) ?_
          refine r_iload_n C 57 1 rfl dX5_joined_56 rfl ?_
          refine r_iload_n C 58 2 rfl dX5_joined_57 rfl ?_
          refine r_icmp_ge C 61 65 dX5_joined_58 (by decide) rfl (fun c_5 => ?_) (fun c_5 => ?_)
          · refine r_iconst C 62 (nI 1) (by decide) dX5_joined_61 rfl ?_
            refine r_goto C 66 dX5_joined_62 (by decide) ?_
            exact r_iret C Rr dX5_joined_66 (fun _ => rfl) rfl
          · refine r_iconst C 66 (nI 0) (by decide) dX5_joined_65 rfl ?_
            exact r_iret C Rr dX5_joined_66 (fun _ => rfl) rfl
        · refine imp_ite (fun g_6 => ?_) (fun g_6 => ?_)
          · refine r_tsIn C 67 (nI 7) g_6 dX5_joined_1 (by decide) (by decide) rfl (by decide) ?_
            refine r_iload_n C 68 1 rfl dX5_joined_67 rfl ?_
            refine r_iload_n C 69 2 rfl dX5_joined_68 rfl ?_
            refine r_icmp_le C 72 76 dX5_joined_69 (by decide) rfl (fun c_7 => ?_) (fun c_7 => ?_)
            · refine r_iconst C 73 (nI 1) (by decide) dX5_joined_72 rfl ?_
              refine r_goto C 77 dX5_joined_73 (by decide) ?_
              exact r_iret C Rr dX5_joined_77 (fun _ => rfl) rfl
            · refine r_iconst C 77 (nI 0) (by decide) dX5_joined_76 rfl ?_
              exact r_iret C Rr dX5_joined_77 (fun _ => rfl) rfl
          · refine imp_ite (fun g_8 => ?_) (fun g_8 => ?_)
            · refine r_tsIn C 78 (nI 8) g_8 dX5_joined_1 (by decide) (by decide) rfl (by decide) ?_
              refine r_iload_n C 79 1 rfl dX5_joined_78 rfl ?_
              refine r_iload_n C 80 2 rfl dX5_joined_79 rfl ?_
              refine r_icmp_ne C 83 87 dX5_joined_80 (by decide) rfl (fun c_9 => ?_) (fun c_9 => ?_)
              · refine r_iconst C 84 (nI 1) (by decide) dX5_joined_83 rfl ?_
                refine r_goto C 88 dX5_joined_84 (by decide) ?_
                exact r_iret C Rr dX5_joined_88 (fun _ => rfl) rfl
              · refine r_iconst C 88 (nI 0) (by decide) dX5_joined_87 rfl ?_
                exact r_iret C Rr dX5_joined_88 (fun _ => rfl) rfl
            · refine imp_ite (fun g_10 => ?_) (fun g_10 => ?_)
              · refine r_tsIn C 89 (nI 9) g_10 dX5_joined_1 (by decide) (by decide) rfl (by decide) ?_
                refine r_iload_n C 90 1 rfl dX5_joined_89 rfl ?_
                refine r_if_eq C 93 101 dX5_joined_90 (by decide) rfl (fun c_11 => ?_) (fun c_11 => ?_)
                · refine r_iconst C 102 (nI 0) (by decide) dX5_joined_101 rfl ?_
                  exact r_iret C Rr dX5_joined_102 (fun _ => rfl) rfl
                · refine r_iload_n C 94 2 rfl dX5_joined_93 rfl ?_
                  refine r_if_eq C 97 101 dX5_joined_94 (by decide) rfl (fun c_12 => ?_) (fun c_12 => ?_)
                  · refine r_iconst C 102 (nI 0) (by decide) dX5_joined_101 rfl ?_
                    exact r_iret C Rr dX5_joined_102 (fun _ => rfl) rfl
                  · refine r_iconst C 98 (nI 1) (by decide) dX5_joined_97 rfl ?_
                    refine r_goto C 102 dX5_joined_98 (by decide) ?_
                    exact r_iret C Rr dX5_joined_102 (fun _ => rfl) rfl
              · refine r_tsOut C 103 dX5_joined_1 (ts_out ?_) (by decide) ?_
                · intro v h1 h2 e
                  have hv : v = 3 ∨ v = 4 ∨ v = 5 ∨ v = 6 ∨ v = 7 ∨ v = 8 ∨ v = 9 := by omega
                  rcases hv with rfl | rfl | rfl | rfl | rfl | rfl | rfl
                  · exact g_1 (e.trans (by decide))
                  · exact g_2 (e.trans (by decide))
                  · exact g_3 (e.trans (by decide))
                  · exact g_4 (e.trans (by decide))
                  · exact g_6 (e.trans (by decide))
                  · exact g_8 (e.trans (by decide))
                  · exact g_10 (e.trans (by decide))
                · refine r_iload_n C 104 1 rfl dX5_joined_103 rfl ?_
                  refine imp_jn (fun (j_13 : Option Int32) =>  Imp κ 111 [] [] h (j_13)) ?_ ?_
                  · refine r_iconst C 112 (nI 1) (by decide) dX5_joined_111 rfl ?_
                    refine r_goto C 116 dX5_joined_112 (by decide) ?_
                    exact r_iret C Rr dX5_joined_116 (fun _ => rfl) rfl
                  · intro j_13 hj_13
                    refine r_if_ne C 107 111 dX5_joined_104 (by decide) rfl (fun c_14 => ?_) (fun c_14 => ?_)
                    · refine r_iload_n C 108 2 rfl dX5_joined_107 rfl ?_
                      refine r_if_eq C 111 115 dX5_joined_108 (by decide) rfl (fun c_15 => ?_) (fun c_15 => ?_)
                      · refine r_iconst C 116 (nI 0) (by decide) dX5_joined_115 rfl ?_
                        exact r_iret C Rr dX5_joined_116 (fun _ => rfl) rfl
                      · exact imp_sub [] [] rfl (hj_13)
                    · exact imp_sub [] [] rfl (hj_13)
set_option maxHeartbeats 4000000 in
theorem ok_f_X5_joined (x0 : Int32) (x1 : Int32) (x2 : Int32)  (h : CH) : ∀ q, f_X5_joined x0 x1 x2 h = some q → MG yX5_joined cX5_joined 3 (some .int) [] 1 (fun ad => [.int x0, .int x1, .int x2]) h ((fun (x : Int32) (_ : Nat → Nat) => some (Value.int x)) q) ((fun (_ : Int32) => h) q) := mg_of RX5 (by decide) rfl (fun _ => Nat.le_of_ble_eq_true rfl) (fun κ C Rr => imp_f_X5_joined C x0 x1 x2 h Rr)
set_option maxHeartbeats 4000000 in
set_option maxRecDepth 100000 in
theorem imp_f_X5_result_55_L9 {κ : Kx (Int32 × CH)} (C : Cx κ cX5_result RX5 6 2 (40 * 2) []) (x2 : Int32)    (Rr : Rt κ (some .int) (fun (q : Int32 × CH) (_ : Nat → Nat) => some (Value.int q.1)) (fun (q : (Int32 × CH)) => q.2)) : ∀ (n : Nat) (x3 : Int32) (x4 : Int32) (h : CH), Imp κ 9 [(0, .ref (kad κ 55)), (2, .int (x2)), (3, .int (x3)), (4, .int (x4))] [] h (f_X5_result_55_L9 x2 n x3 x4 h) := by
  intro n
  induction n with
  | zero => intros; exact imp_none
  | succ n ih =>
    intro x3 x4 h
    rw [f_X5_result_55_L9]
    refine r_iload C 11 3 rfl dX5_result_9 rfl ?_
    refine r_iload_n C 12 1 rfl dX5_result_11 rfl ?_
    refine imp_jn (fun (j_1 : Option (Int32 × CH)) =>  Imp κ 166 [(0, .ref (kad κ 55)), (3, .int (x3))] [] h (j_1)) ?_ ?_
    · refine r_iload_n C 167 1 rfl dX5_result_166 rfl ?_
      refine r_iconst C 168 (nI 1) (by decide) dX5_result_167 rfl ?_
      refine r_icmp_lt C 171 182 dX5_result_168 (by decide) rfl (fun c_2 => ?_) (fun c_2 => ?_)
      · refine r_iconst C 183 (nI 0) (by decide) dX5_result_182 rfl ?_
        exact r_iret C Rr dX5_result_183 (fun _ => rfl) rfl
      · refine r_aload_n C 172 0 rfl dX5_result_171 rfl ?_
        refine r_getR C 175 dX5_result_172 flX5_51 kt_55 rfl rf_55_12 rfl ?_
        refine r_iload_n C 176 1 rfl dX5_result_175 rfl ?_
        refine r_iconst C 177 (nI 1) (by decide) dX5_result_176 rfl ?_
        refine r_isub C 178 dX5_result_177 rfl ?_
        refine r_iald C 179 dX5_result_178 kt_62 rfl rfl (fun v_3 => ?_)
        refine r_goto C 183 dX5_result_179 (by decide) ?_
        exact r_iret C Rr dX5_result_183 (fun _ => rfl) rfl
    · intro j_1 hj_1
      refine r_icmp_ge C 15 166 dX5_result_12 (by decide) rfl (fun c_4 => ?_) (fun c_4 => ?_)
      · refine r_iload C 17 3 rfl dX5_result_15 rfl ?_
        refine r_sipush C 20 (nI 800) (by decide) dX5_result_17 rfl ?_
        refine r_icmp_ge C 23 166 dX5_result_20 (by decide) rfl (fun c_5 => ?_) (fun c_5 => ?_)
        · refine r_aload_n C 24 0 rfl dX5_result_23 rfl ?_
          refine r_getR C 27 dX5_result_24 flX5_42 kt_55 rfl rf_55_9 rfl ?_
          refine r_iload C 29 3 rfl dX5_result_27 rfl ?_
          refine r_iald C 30 dX5_result_29 kt_59 rfl rfl (fun v_6 => ?_)
          refine r_istore C 32 [(5, .int (v_6)), (0, .ref (kad κ 55)), (2, .int (x2)), (3, .int (x3)), (4, .int (x4))] dX5_result_30 (by decide) rfl rfl ?_
          refine r_iload C 34 0 rfl dX5_result_32 rfl ?_
          refine imp_jn (fun (j_9 : Int32 → CH → Option (Int32 × CH)) => ∀ (x3_7 : Int32) (h_8 : CH), Imp κ 160 [(0, .ref (kad κ 55)), (2, .int (x2)), (3, .int (x3_7)), (4, .int (x4))] [] h_8 (j_9 x3_7 h_8)) ?_ ?_
          · intro x3_7 h_8
            refine r_iinc C 163 3 (nI 1) [(4, .int (x4 + (nI 1))), (0, .ref (kad κ 55)), (2, .int (x2)), (3, .int (x3_7))] dX5_result_160 rfl (by decide) (by decide) rfl rfl ?_
            refine r_goto C 9 dX5_result_163 (by decide) ?_
            exact imp_sub [(0, .ref (kad κ 55)), (2, .int (x2)), (3, .int (x3_7)), (4, .int (x4 + (nI 1)))] [1, 2, 3, 0] rfl (ih (x3_7) (x4 + (nI 1)) h_8)
          · intro j_9 hj_9
            refine imp_jn (fun (j_10 : Option (Int32 × CH)) =>  Imp κ 43 [(0, .ref (kad κ 55)), (2, .int (x2)), (3, .int (x3)), (4, .int (x4)), (5, .int (v_6))] [] h (j_10)) ?_ ?_
            · refine r_iload_n C 44 2 rfl dX5_result_43 rfl ?_
              refine r_bipush C 46 (nI 40) (by decide) dX5_result_44 rfl ?_
              refine r_icmp_ge C 49 160 dX5_result_46 (by decide) rfl (fun c_11 => ?_) (fun c_11 => ?_)
              · refine r_aload_n C 50 0 rfl dX5_result_49 rfl ?_
                refine r_getR C 53 dX5_result_50 flX5_51 kt_55 rfl rf_55_12 rfl ?_
                refine r_iload_n C 54 2 rfl dX5_result_53 rfl ?_
                refine r_iload C 56 4 rfl dX5_result_54 rfl ?_
                refine imp_jn (fun (j_14 : Int32 → Int32 → Option (Int32 × CH)) => ∀ (s_12 : Int32) (s_13 : Int32), Imp κ 80 [(0, .ref (kad κ 55)), (2, .int (x2)), (3, .int (x3)), (4, .int (x4))] [.int (s_12), .int (s_13), .ref (kad κ 62)] h (j_14 s_12 s_13)) ?_ ?_
                · intro s_12 s_13
                  refine r_iast C 81 dX5_result_80 kt_62 rfl rfl (fun h_15 => ?_)
                  refine r_iinc C 84 2 (nI 1) [(3, .int (x3 + (nI 1))), (0, .ref (kad κ 55)), (2, .int (x2)), (4, .int (x4))] dX5_result_81 rfl (by decide) (by decide) rfl rfl ?_
                  refine r_goto C 160 dX5_result_84 (by decide) ?_
                  exact imp_sub [(0, .ref (kad κ 55)), (2, .int (x2)), (3, .int (x3 + (nI 1))), (4, .int (x4))] [1, 2, 0, 3] rfl (hj_9 (x3 + (nI 1)) h_15)
                · intro j_14 hj_14
                  refine r_if_ne C 59 69 dX5_result_56 (by decide) rfl (fun c_16 => ?_) (fun c_16 => ?_)
                  · refine r_aload_n C 60 0 rfl dX5_result_59 rfl ?_
                    refine r_getR C 63 dX5_result_60 flX5_45 kt_55 rfl rf_55_10 rfl ?_
                    refine r_iload C 65 3 rfl dX5_result_63 rfl ?_
                    refine r_iald C 66 dX5_result_65 kt_60 rfl rfl (fun v_17 => ?_)
                    refine r_goto C 80 dX5_result_66 (by decide) ?_
                    exact imp_sub [(0, .ref (kad κ 55)), (2, .int (x2)), (3, .int (x3)), (4, .int (x4))] [0, 1, 2, 3] rfl (hj_14 (v_17) (x3))
                  · refine r_aload_n C 70 0 rfl dX5_result_69 rfl ?_
                    refine r_aload_n C 71 0 rfl dX5_result_70 rfl ?_
                    refine r_getR C 74 dX5_result_71 flX5_45 kt_55 rfl rf_55_10 rfl ?_
                    refine r_iload C 76 3 rfl dX5_result_74 rfl ?_
                    refine r_iald C 77 dX5_result_76 kt_60 rfl rfl (fun v_18 => ?_)
                    refine r_cVpI C 80 [.int (x3), .ref (kad κ 62)] (ok_f_X5_valueAt_55 v_18 h) dX5_result_77 lvX5_74 kt_55 rfl rfl rfl (by decide) (Nat.le_of_ble_eq_true rfl) rfl rfl (Nat.le_of_ble_eq_true rfl) rfl rfl (fun v_19 => ?_)
                    exact imp_sub [(0, .ref (kad κ 55)), (2, .int (x2)), (3, .int (x3)), (4, .int (x4))] [0, 1, 2, 3] rfl (hj_14 (v_19) (x3))
              · exact imp_sub [(0, .ref (kad κ 55)), (2, .int (x2)), (3, .int (x3)), (4, .int (x4))] [0, 1, 2, 3] rfl (hj_9 (x3) h)
            · intro j_10 hj_10
              refine r_if_eq C 37 43 dX5_result_34 (by decide) rfl (fun c_20 => ?_) (fun c_20 => ?_)
              · exact imp_sub [(0, .ref (kad κ 55)), (2, .int (x2)), (3, .int (x3)), (4, .int (x4)), (5, .int (v_6))] [1, 2, 3, 4, 0] rfl (hj_10)
              · refine r_iload C 39 0 rfl dX5_result_37 rfl ?_
                refine r_iconst C 40 (nI 1) (by decide) dX5_result_39 rfl ?_
                refine r_icmp_ne C 43 87 dX5_result_40 (by decide) rfl (fun c_21 => ?_) (fun c_21 => ?_)
                · exact imp_sub [(0, .ref (kad κ 55)), (2, .int (x2)), (3, .int (x3)), (4, .int (x4)), (5, .int (v_6))] [1, 2, 3, 4, 0] rfl (hj_10)
                · refine r_iload C 89 0 rfl dX5_result_87 rfl ?_
                  refine r_iconst C 90 (nI 2) (by decide) dX5_result_89 rfl ?_
                  refine r_icmp_ne C 93 125 dX5_result_90 (by decide) rfl (fun c_22 => ?_) (fun c_22 => ?_)
                  · refine r_iload_n C 94 3 rfl dX5_result_93 rfl ?_
                    refine r_iconst C 95 (nI 1) (by decide) dX5_result_94 rfl ?_
                    refine r_icmp_lt C 98 160 dX5_result_95 (by decide) rfl (fun c_23 => ?_) (fun c_23 => ?_)
                    · exact imp_sub [(0, .ref (kad κ 55)), (2, .int (x2)), (3, .int (x3)), (4, .int (x4))] [1, 2, 3, 4] rfl (hj_9 (x3) h)
                    · refine r_aload_n C 99 1 rfl dX5_result_98 rfl ?_
                      refine r_getR C 102 dX5_result_99 flX5_51 kt_55 rfl rf_55_12 rfl ?_
                      refine r_iload_n C 103 3 rfl dX5_result_102 rfl ?_
                      refine r_iconst C 104 (nI 1) (by decide) dX5_result_103 rfl ?_
                      refine r_isub C 105 dX5_result_104 rfl ?_
                      refine r_aload_n C 106 1 rfl dX5_result_105 rfl ?_
                      refine r_getR C 109 dX5_result_106 flX5_51 kt_55 rfl rf_55_12 rfl ?_
                      refine r_iload_n C 110 3 rfl dX5_result_109 rfl ?_
                      refine r_iconst C 111 (nI 1) (by decide) dX5_result_110 rfl ?_
                      refine r_isub C 112 dX5_result_111 rfl ?_
                      refine r_iald C 113 dX5_result_112 kt_62 rfl rfl (fun v_24 => ?_)
                      refine imp_jn (fun (j_27 : Int32 → Int32 → Option (Int32 × CH)) => ∀ (s_25 : Int32) (s_26 : Int32), Imp κ 121 [(0, .ref (kad κ 55)), (2, .int (x2)), (3, .int (x3)), (4, .int (x4))] [.int (s_25), .int (s_26), .ref (kad κ 62)] h (j_27 s_25 s_26)) ?_ ?_
                      · intro s_25 s_26
                        refine r_iast C 122 dX5_result_121 kt_62 rfl rfl (fun h_28 => ?_)
                        refine r_goto C 160 dX5_result_122 (by decide) ?_
                        exact imp_sub [(0, .ref (kad κ 55)), (2, .int (x2)), (3, .int (x3)), (4, .int (x4))] [0, 1, 2, 3] rfl (hj_9 (x3) h_28)
                      · intro j_27 hj_27
                        refine r_if_ne C 116 120 dX5_result_113 (by decide) rfl (fun c_29 => ?_) (fun c_29 => ?_)
                        · refine r_iconst C 117 (nI 1) (by decide) dX5_result_116 rfl ?_
                          refine r_goto C 121 dX5_result_117 (by decide) ?_
                          exact imp_sub [(0, .ref (kad κ 55)), (2, .int (x2)), (3, .int (x3)), (4, .int (x4))] [1, 2, 3, 4] rfl (hj_27 ((nI 1)) ((x3) - ((nI 1))))
                        · refine r_iconst C 121 (nI 0) (by decide) dX5_result_120 rfl ?_
                          exact imp_sub [(0, .ref (kad κ 55)), (2, .int (x2)), (3, .int (x3)), (4, .int (x4))] [1, 2, 3, 4] rfl (hj_27 ((nI 0)) ((x3) - ((nI 1))))
                  · refine r_iload_n C 126 3 rfl dX5_result_125 rfl ?_
                    refine r_iconst C 127 (nI 2) (by decide) dX5_result_126 rfl ?_
                    refine r_icmp_lt C 130 160 dX5_result_127 (by decide) rfl (fun c_30 => ?_) (fun c_30 => ?_)
                    · exact imp_sub [(0, .ref (kad κ 55)), (2, .int (x2)), (3, .int (x3)), (4, .int (x4))] [1, 2, 3, 4] rfl (hj_9 (x3) h)
                    · refine r_iinc C 133 3 (-1) [(3, .int (x3 + (-1))), (5, .int (v_6)), (0, .ref (kad κ 55)), (2, .int (x2)), (4, .int (x4))] dX5_result_130 rfl (by decide) (by decide) rfl rfl ?_
                      refine r_aload_n C 134 2 rfl dX5_result_133 rfl ?_
                      refine r_getR C 137 dX5_result_134 flX5_51 kt_55 rfl rf_55_12 rfl ?_
                      refine r_iload_n C 138 0 rfl dX5_result_137 rfl ?_
                      refine r_iconst C 139 (nI 1) (by decide) dX5_result_138 rfl ?_
                      refine r_isub C 140 dX5_result_139 rfl ?_
                      refine r_iload C 142 1 rfl dX5_result_140 rfl ?_
                      refine r_aload_n C 143 2 rfl dX5_result_142 rfl ?_
                      refine r_getR C 146 dX5_result_143 flX5_51 kt_55 rfl rf_55_12 rfl ?_
                      refine r_iload_n C 147 0 rfl dX5_result_146 rfl ?_
                      refine r_iconst C 148 (nI 1) (by decide) dX5_result_147 rfl ?_
                      refine r_isub C 149 dX5_result_148 rfl ?_
                      refine r_iald C 150 dX5_result_149 kt_62 rfl rfl (fun v_31 => ?_)
                      refine r_aload_n C 151 2 rfl dX5_result_150 rfl ?_
                      refine r_getR C 154 dX5_result_151 flX5_51 kt_55 rfl rf_55_12 rfl ?_
                      refine r_iload_n C 155 0 rfl dX5_result_154 rfl ?_
                      refine r_iald C 156 dX5_result_155 kt_62 rfl rfl (fun v_32 => ?_)
                      refine r_cSpI C 159 [.int ((x3 + (-1)) - ((nI 1))), .ref (kad κ 62)] (ok_f_X5_joined v_6 v_31 v_32 h) dX5_result_156 lsX5_77 rfl (by decide) (Nat.le_of_ble_eq_true rfl) rfl rfl (Nat.le_of_ble_eq_true rfl) rfl rfl (fun v_33 => ?_)
                      refine r_iast C 160 dX5_result_159 kt_62 rfl rfl (fun h_34 => ?_)
                      exact imp_sub [(0, .ref (kad κ 55)), (2, .int (x2)), (3, .int (x3 + (-1))), (4, .int (x4))] [2, 3, 0, 4] rfl (hj_9 (x3 + (-1)) h_34)
        · exact imp_sub [(0, .ref (kad κ 55)), (3, .int (x3))] [0, 2] rfl (hj_1)
      · exact imp_sub [(0, .ref (kad κ 55)), (3, .int (x3))] [0, 2] rfl (hj_1)
set_option maxHeartbeats 4000000 in
set_option maxRecDepth 100000 in
theorem imp_f_X5_result_55 {κ : Kx (Int32 × CH)} (C : Cx κ cX5_result RX5 6 2 (40 * 2) []) (x1 : Int32) (x2 : Int32)  (h : CH) (Rr : Rt κ (some .int) (fun (q : Int32 × CH) (_ : Nat → Nat) => some (Value.int q.1)) (fun (q : (Int32 × CH)) => q.2)) : Imp κ 0 [(0, .ref (kad κ 55)), (1, .int (x1)), (2, .int (x2))] [] h (f_X5_result_55 x1 x2 h) := by
  unfold f_X5_result_55
  refine r_iconst C 1 (nI 0) (by decide) dX5_result_0 rfl ?_
  refine r_istore_n C 2 3 [(3, .int ((nI 0))), (0, .ref (kad κ 55)), (1, .int (x1)), (2, .int (x2))] dX5_result_1 rfl (by decide) rfl rfl ?_
  refine r_iconst C 3 (nI 0) (by decide) dX5_result_2 rfl ?_
  refine r_iload_n C 4 2 rfl dX5_result_3 rfl ?_
  refine r_mmax C 7 dX5_result_4 lmX5_68 (Nat.le_of_ble_eq_true rfl) (by decide) rfl ?_
  refine r_istore C 9 [(4, .int (mx ((nI 0)) (x1))), (3, .int ((nI 0))), (0, .ref (kad κ 55)), (1, .int (x1)), (2, .int (x2))] dX5_result_7 (by decide) rfl rfl ?_
  refine imp_sub [(0, .ref (kad κ 55)), (2, .int (x2)), (3, .int ((nI 0))), (4, .int (mx ((nI 0)) (x1)))] [2, 4, 1, 0] rfl ?_
  refine imp_f_X5_result_55_L9 C (x2) Rr FU ((nI 0)) (mx ((nI 0)) (x1)) h
set_option maxHeartbeats 4000000 in
theorem ok_f_X5_result_55 (x1 : Int32) (x2 : Int32)  (h : CH) : ∀ q, f_X5_result_55 x1 x2 h = some q → MG yX5_result cX5_result 6 (some .int) [] 2 (fun ad => [.ref (ad 55), .int x1, .int x2]) h ((fun (q : Int32 × CH) (_ : Nat → Nat) => some (Value.int q.1)) q) ((fun (q : (Int32 × CH)) => q.2) q) := mg_of RX5 (by decide) rfl (fun _ => Nat.le_of_ble_eq_true rfl) (fun κ C Rr => imp_f_X5_result_55 C x1 x2 h Rr)
set_option maxHeartbeats 4000000 in
set_option maxRecDepth 100000 in
theorem imp_f_X5_lets_55 {κ : Kx (Int32 × CH)} (C : Cx κ cX5_lets RX5 5 3 (40 * 3) []) (x1 : Int32) (x2 : Int32) (x3 : Int32) (x4 : Int32)  (h : CH) (Rr : Rt κ (some .boolean) (fun (q : Int32 × CH) (_ : Nat → Nat) => some (Value.int q.1)) (fun (q : (Int32 × CH)) => q.2)) : Imp κ 0 [(0, .ref (kad κ 55)), (1, .int (x1)), (2, .int (x2)), (3, .int (x3)), (4, .int (x4))] [] h (f_X5_lets_55 x1 x2 x3 x4 h) := by
  unfold f_X5_lets_55
  refine r_aload_n C 1 0 rfl dX5_lets_0 rfl ?_
  refine r_getI C 4 dX5_lets_1 flX5_18 kt_55 rfl rfl ?_
  refine r_if_ne C 7 19 dX5_lets_4 (by decide) rfl (fun c_1 => ?_) (fun c_1 => ?_)
  · refine r_iload_n C 8 1 rfl dX5_lets_7 rfl ?_
    refine r_bipush C 10 (nI 40) (by decide) dX5_lets_8 rfl ?_
    refine r_icmp_ge C 13 17 dX5_lets_10 (by decide) rfl (fun c_2 => ?_) (fun c_2 => ?_)
    · refine r_iconst C 14 (nI 1) (by decide) dX5_lets_13 rfl ?_
      refine r_goto C 18 dX5_lets_14 (by decide) ?_
      exact r_zret C Rr (by decide) dX5_lets_18 (fun _ => rfl) rfl
    · refine r_iconst C 18 (nI 0) (by decide) dX5_lets_17 rfl ?_
      exact r_zret C Rr (by decide) dX5_lets_18 (fun _ => rfl) rfl
  · refine r_aload_n C 20 0 rfl dX5_lets_19 rfl ?_
    refine r_getR C 23 dX5_lets_20 flX5_48 kt_55 rfl rf_55_11 rfl ?_
    refine r_iconst C 24 (nI 0) (by decide) dX5_lets_23 rfl ?_
    refine r_iload_n C 25 1 rfl dX5_lets_24 rfl ?_
    refine r_iast C 26 dX5_lets_25 kt_61 rfl rfl (fun h_3 => ?_)
    refine r_aload_n C 27 0 rfl dX5_lets_26 rfl ?_
    refine r_getR C 30 dX5_lets_27 flX5_48 kt_55 rfl rf_55_11 rfl ?_
    refine r_iconst C 31 (nI 1) (by decide) dX5_lets_30 rfl ?_
    refine r_iload_n C 32 2 rfl dX5_lets_31 rfl ?_
    refine r_iast C 33 dX5_lets_32 kt_61 rfl rfl (fun h_4 => ?_)
    refine r_aload_n C 34 0 rfl dX5_lets_33 rfl ?_
    refine r_getR C 37 dX5_lets_34 flX5_48 kt_55 rfl rf_55_11 rfl ?_
    refine r_iconst C 38 (nI 2) (by decide) dX5_lets_37 rfl ?_
    refine r_iload_n C 39 3 rfl dX5_lets_38 rfl ?_
    refine r_iast C 40 dX5_lets_39 kt_61 rfl rfl (fun h_5 => ?_)
    refine r_aload_n C 41 0 rfl dX5_lets_40 rfl ?_
    refine r_getR C 44 dX5_lets_41 flX5_48 kt_55 rfl rf_55_11 rfl ?_
    refine r_iconst C 45 (nI 3) (by decide) dX5_lets_44 rfl ?_
    refine r_iload C 47 4 rfl dX5_lets_45 rfl ?_
    refine r_iast C 48 dX5_lets_47 kt_61 rfl rfl (fun h_6 => ?_)
    refine r_aload_n C 49 0 rfl dX5_lets_48 rfl ?_
    refine r_aload_n C 50 0 rfl dX5_lets_49 rfl ?_
    refine r_getI C 53 dX5_lets_50 flX5_22 kt_55 rfl rfl ?_
    refine r_aload_n C 54 0 rfl dX5_lets_53 rfl ?_
    refine r_getI C 57 dX5_lets_54 flX5_25 kt_55 rfl rfl ?_
    refine r_cViI C 60 [] (ok_f_X5_result_55 (h_6.1 55 3) (h_6.1 55 4) h_6) dX5_lets_57 lvX5_54 kt_55 rfl rfl rfl (by decide) (Nat.le_of_ble_eq_true rfl) rfl rfl (Nat.le_of_ble_eq_true rfl) rfl rfl (fun v_7 h_8 => ?_)
    refine r_if_eq C 63 67 dX5_lets_60 (by decide) rfl (fun c_9 => ?_) (fun c_9 => ?_)
    · refine r_iconst C 68 (nI 0) (by decide) dX5_lets_67 rfl ?_
      exact r_zret C Rr (by decide) dX5_lets_68 (fun _ => rfl) rfl
    · refine r_iconst C 64 (nI 1) (by decide) dX5_lets_63 rfl ?_
      refine r_goto C 68 dX5_lets_64 (by decide) ?_
      exact r_zret C Rr (by decide) dX5_lets_68 (fun _ => rfl) rfl
set_option maxHeartbeats 4000000 in
theorem ok_f_X5_lets_55 (x1 : Int32) (x2 : Int32) (x3 : Int32) (x4 : Int32)  (h : CH) : ∀ q, f_X5_lets_55 x1 x2 x3 x4 h = some q → MG yX5_lets cX5_lets 5 (some .boolean) [] 3 (fun ad => [.ref (ad 55), .int x1, .int x2, .int x3, .int x4]) h ((fun (q : Int32 × CH) (_ : Nat → Nat) => some (Value.int q.1)) q) ((fun (q : (Int32 × CH)) => q.2) q) := mg_of RX5 (by decide) rfl (fun _ => Nat.le_of_ble_eq_true rfl) (fun κ C Rr => imp_f_X5_lets_55 C x1 x2 x3 x4 h Rr)
set_option maxHeartbeats 4000000 in
set_option maxRecDepth 100000 in
theorem imp_f_X1_lets {κ : Kx (Int32 × CH)} (C : Cx κ cX1_lets RX1 3 4 (40 * 4) []) (x1 : Int32) (x2 : Int32)  (h : CH) (Rr : Rt κ (some .boolean) (fun (q : Int32 × CH) (_ : Nat → Nat) => some (Value.int q.1)) (fun (q : (Int32 × CH)) => q.2)) : Imp κ 0 [(0, .ref (kad κ 81)), (1, .int (x1)), (2, .int (x2))] [] h (f_X1_lets x1 x2 h) := by
  unfold f_X1_lets
  refine r_aload_n C 1 0 rfl dX1_lets_0 rfl ?_
  refine r_getR C 4 dX1_lets_1 flX1_34 kt_81 rfl rf_81_1 rfl ?_
  refine r_iload_n C 5 2 rfl dX1_lets_4 rfl ?_
  refine r_aload_n C 6 0 rfl dX1_lets_5 rfl ?_
  refine r_getR C 9 dX1_lets_6 flX1_30 kt_81 rfl rf_81_0 rfl ?_
  refine r_iload_n C 10 1 rfl dX1_lets_9 rfl ?_
  refine r_cVpI C 13 [.int (x2), .ref (kad κ 55)] (ok_f_X9_kindOf_7 x1 h) dX1_lets_10 lvX1_71 kt_7 rfl rfl rfl (by decide) (Nat.le_of_ble_eq_true rfl) rfl rfl (Nat.le_of_ble_eq_true rfl) rfl rfl (fun v_1 => ?_)
  refine r_aload_n C 14 0 rfl dX1_lets_13 rfl ?_
  refine r_getI C 17 dX1_lets_14 flX1_23 kt_81 rfl rfl ?_
  refine r_aload_n C 18 0 rfl dX1_lets_17 rfl ?_
  refine r_getI C 21 dX1_lets_18 flX1_27 kt_81 rfl rfl ?_
  refine r_cViI C 24 [] (ok_f_X5_lets_55 x2 v_1 (h.1 81 5) (h.1 81 6) h) dX1_lets_21 lvX1_75 kt_55 rfl rfl rfl (by decide) (Nat.le_of_ble_eq_true rfl) rfl rfl (Nat.le_of_ble_eq_true rfl) rfl rfl (fun v_2 h_3 => ?_)
  exact r_zretg C Rr dX1_lets_24 (fun _ => rfl) rfl
set_option maxHeartbeats 4000000 in
theorem ok_f_X1_lets (x1 : Int32) (x2 : Int32)  (h : CH) : ∀ q, f_X1_lets x1 x2 h = some q → MG yX1_lets cX1_lets 3 (some .boolean) [] 4 (fun ad => [.ref (ad 81), .int x1, .int x2]) h ((fun (q : Int32 × CH) (_ : Nat → Nat) => some (Value.int q.1)) q) ((fun (q : (Int32 × CH)) => q.2) q) := mg_of RX1 (by decide) rfl (fun _ => Nat.le_of_ble_eq_true rfl) (fun κ C Rr => imp_f_X1_lets C x1 x2 h Rr)
set_option maxHeartbeats 4000000 in
set_option maxRecDepth 100000 in
theorem imp_f_X1_letsInWith {κ : Kx (Int32 × CH)} (C : Cx κ cX1_letsInWith RX1 3 5 (40 * 5) []) (x1 : Int32) (x2 : Int32)  (h : CH) (Rr : Rt κ (some .boolean) (fun (q : Int32 × CH) (_ : Nat → Nat) => some (Value.int q.1)) (fun (q : (Int32 × CH)) => q.2)) : Imp κ 0 [(0, .ref (kad κ 81)), (1, .int (x1)), (2, .int (x2))] [] h (f_X1_letsInWith x1 x2 h) := by
  unfold f_X1_letsInWith
  refine r_aload_n C 1 0 rfl dX1_letsInWith_0 rfl ?_
  refine r_iload_n C 2 1 rfl dX1_letsInWith_1 rfl ?_
  refine r_aload_n C 3 0 rfl dX1_letsInWith_2 rfl ?_
  refine r_iload_n C 4 1 rfl dX1_letsInWith_3 rfl ?_
  refine r_iload_n C 5 2 rfl dX1_letsInWith_4 rfl ?_
  refine r_cVpI C 8 [.int (x1), .ref (kad κ 81)] (ok_f_X1_apartFromPicture x1 x2 h) dX1_letsInWith_5 lvX1_64 kt_81 rfl rfl rfl (by decide) (Nat.le_of_ble_eq_true rfl) rfl rfl (Nat.le_of_ble_eq_true rfl) rfl rfl (fun v_1 => ?_)
  refine r_cViI C 11 [] (ok_f_X1_lets x1 v_1 h) dX1_letsInWith_8 lvX1_67 kt_81 rfl rfl rfl (by decide) (Nat.le_of_ble_eq_true rfl) rfl rfl (Nat.le_of_ble_eq_true rfl) rfl rfl (fun v_2 h_3 => ?_)
  exact r_zretg C Rr dX1_letsInWith_11 (fun _ => rfl) rfl
set_option maxHeartbeats 4000000 in
theorem ok_f_X1_letsInWith (x1 : Int32) (x2 : Int32)  (h : CH) : ∀ q, f_X1_letsInWith x1 x2 h = some q → MG yX1_letsInWith cX1_letsInWith 3 (some .boolean) [] 5 (fun ad => [.ref (ad 81), .int x1, .int x2]) h ((fun (q : Int32 × CH) (_ : Nat → Nat) => some (Value.int q.1)) q) ((fun (q : (Int32 × CH)) => q.2) q) := mg_of RX1 (by decide) rfl (fun _ => Nat.le_of_ble_eq_true rfl) (fun κ C Rr => imp_f_X1_letsInWith C x1 x2 h Rr)
set_option maxHeartbeats 4000000 in
set_option maxRecDepth 100000 in
theorem imp_f_X11_passes {κ : Kx (Int32 × CH)} (C : Cx κ cX11_passes RX11 5 6 (40 * 6) []) (x1 : Int32) (x2 : Int32) (x3 : Int32) (x4 : Int32)  (h : CH) (Rr : Rt κ (some .int) (fun (q : Int32 × CH) (_ : Nat → Nat) => some (Value.int q.1)) (fun (q : (Int32 × CH)) => q.2)) : Imp κ 0 [(0, .ref (kad κ 0)), (1, .int (x1)), (2, .int (x2)), (3, .int (x3)), (4, .int (x4))] [] h (f_X11_passes x1 x2 x3 x4 h) := by
  unfold f_X11_passes
  refine r_aload_n C 1 0 rfl dX11_passes_0 rfl ?_
  refine r_getR C 4 dX11_passes_1 flX11_35 kt_0 rfl rf_0_5 rfl ?_
  refine r_iload_n C 5 1 rfl dX11_passes_4 rfl ?_
  refine r_cVpI C 8 [] (ok_f_X9_has_7 x1 h) dX11_passes_5 lvX11_160 kt_7 rfl rfl rfl (by decide) (Nat.le_of_ble_eq_true rfl) rfl rfl (Nat.le_of_ble_eq_true rfl) rfl rfl (fun v_1 => ?_)
  refine r_if_eq C 11 31 dX11_passes_8 (by decide) rfl (fun c_2 => ?_) (fun c_2 => ?_)
  · refine r_iconst C 32 (-1) (by decide) dX11_passes_31 rfl ?_
    exact r_iret C Rr dX11_passes_32 (fun _ => rfl) rfl
  · refine r_aload_n C 12 0 rfl dX11_passes_11 rfl ?_
    refine r_getR C 15 dX11_passes_12 flX11_35 kt_0 rfl rf_0_5 rfl ?_
    refine r_iload_n C 16 2 rfl dX11_passes_15 rfl ?_
    refine r_cVpI C 19 [] (ok_f_X9_has_7 x2 h) dX11_passes_16 lvX11_160 kt_7 rfl rfl rfl (by decide) (Nat.le_of_ble_eq_true rfl) rfl rfl (Nat.le_of_ble_eq_true rfl) rfl rfl (fun v_3 => ?_)
    refine r_if_eq C 22 31 dX11_passes_19 (by decide) rfl (fun c_4 => ?_) (fun c_4 => ?_)
    · refine r_iconst C 32 (-1) (by decide) dX11_passes_31 rfl ?_
      exact r_iret C Rr dX11_passes_32 (fun _ => rfl) rfl
    · refine r_iload_n C 23 3 rfl dX11_passes_22 rfl ?_
      refine r_iload C 25 4 rfl dX11_passes_23 rfl ?_
      refine r_cSpI C 28 [] (ok_f_X11_isWhen x3 x4 h) dX11_passes_25 lsX11_177 rfl (by decide) (Nat.le_of_ble_eq_true rfl) rfl rfl (Nat.le_of_ble_eq_true rfl) rfl rfl (fun v_5 => ?_)
      refine r_if_ne C 31 33 dX11_passes_28 (by decide) rfl (fun c_6 => ?_) (fun c_6 => ?_)
      · refine r_iconst C 32 (-1) (by decide) dX11_passes_31 rfl ?_
        exact r_iret C Rr dX11_passes_32 (fun _ => rfl) rfl
      · refine r_aload_n C 34 0 rfl dX11_passes_33 rfl ?_
        refine r_getR C 37 dX11_passes_34 flX11_75 kt_0 rfl rf_0_12 rfl ?_
        refine r_iload_n C 38 3 rfl dX11_passes_37 rfl ?_
        refine r_iload C 40 4 rfl dX11_passes_38 rfl ?_
        refine r_cViV C 43 [] (ok_f_X1_open x3 x4 h) dX11_passes_40 lvX11_181 kt_81 rfl rfl rfl (by decide) (Nat.le_of_ble_eq_true rfl) rfl rfl (Nat.le_of_ble_eq_true rfl) rfl rfl (fun _ h_7 => ?_)
        refine r_aload_n C 44 0 rfl dX11_passes_43 rfl ?_
        refine r_getR C 47 dX11_passes_44 flX11_75 kt_0 rfl rf_0_12 rfl ?_
        refine r_iload_n C 48 1 rfl dX11_passes_47 rfl ?_
        refine r_iload_n C 49 2 rfl dX11_passes_48 rfl ?_
        refine r_cViI C 52 [] (ok_f_X1_letsInWith x1 x2 h_7) dX11_passes_49 lvX11_184 kt_81 rfl rfl rfl (by decide) (Nat.le_of_ble_eq_true rfl) rfl rfl (Nat.le_of_ble_eq_true rfl) rfl rfl (fun v_8 h_9 => ?_)
        refine r_if_eq C 55 59 dX11_passes_52 (by decide) rfl (fun c_10 => ?_) (fun c_10 => ?_)
        · refine r_iconst C 60 (nI 0) (by decide) dX11_passes_59 rfl ?_
          exact r_iret C Rr dX11_passes_60 (fun _ => rfl) rfl
        · refine r_iconst C 56 (nI 1) (by decide) dX11_passes_55 rfl ?_
          refine r_goto C 60 dX11_passes_56 (by decide) ?_
          exact r_iret C Rr dX11_passes_60 (fun _ => rfl) rfl
set_option maxHeartbeats 4000000 in
theorem ok_f_X11_passes (x1 : Int32) (x2 : Int32) (x3 : Int32) (x4 : Int32)  (h : CH) : ∀ q, f_X11_passes x1 x2 x3 x4 h = some q → MG yX11_passes cX11_passes 5 (some .int) [] 6 (fun ad => [.ref (ad 0), .int x1, .int x2, .int x3, .int x4]) h ((fun (q : Int32 × CH) (_ : Nat → Nat) => some (Value.int q.1)) q) ((fun (q : (Int32 × CH)) => q.2) q) := mg_of RX11 (by decide) rfl (fun _ => Nat.le_of_ble_eq_true rfl) (fun κ C Rr => imp_f_X11_passes C x1 x2 x3 x4 h Rr)
set_option maxHeartbeats 4000000 in
set_option maxRecDepth 100000 in
theorem imp_f_X11_isShare {κ : Kx Int32} (C : Cx κ cX11_isShare RX11 1 1 (40 * 1) []) (x0 : Int32)  (h : CH) (Rr : Rt κ (some .boolean) (fun (x : Int32) (_ : Nat → Nat) => some (Value.int x)) (fun (_ : Int32) => h)) : Imp κ 0 [(0, .int (x0))] [] h (f_X11_isShare x0 h) := by
  unfold f_X11_isShare
  refine r_iload_n C 1 0 rfl dX11_isShare_0 rfl ?_
  refine r_if_lt C 4 14 dX11_isShare_1 (by decide) rfl (fun c_1 => ?_) (fun c_1 => ?_)
  · refine r_iconst C 15 (nI 0) (by decide) dX11_isShare_14 rfl ?_
    exact r_zret C Rr (by decide) dX11_isShare_15 (fun _ => rfl) rfl
  · refine r_iload_n C 5 0 rfl dX11_isShare_4 rfl ?_
    refine r_bipush C 7 (nI 10) (by decide) dX11_isShare_5 rfl ?_
    refine r_icmp_gt C 10 14 dX11_isShare_7 (by decide) rfl (fun c_2 => ?_) (fun c_2 => ?_)
    · refine r_iconst C 15 (nI 0) (by decide) dX11_isShare_14 rfl ?_
      exact r_zret C Rr (by decide) dX11_isShare_15 (fun _ => rfl) rfl
    · refine r_iconst C 11 (nI 1) (by decide) dX11_isShare_10 rfl ?_
      refine r_goto C 15 dX11_isShare_11 (by decide) ?_
      exact r_zret C Rr (by decide) dX11_isShare_15 (fun _ => rfl) rfl
set_option maxHeartbeats 4000000 in
theorem ok_f_X11_isShare (x0 : Int32)  (h : CH) : ∀ q, f_X11_isShare x0 h = some q → MG yX11_isShare cX11_isShare 1 (some .boolean) [] 1 (fun ad => [.int x0]) h ((fun (x : Int32) (_ : Nat → Nat) => some (Value.int x)) q) ((fun (_ : Int32) => h) q) := mg_of RX11 (by decide) rfl (fun _ => Nat.le_of_ble_eq_true rfl) (fun κ C Rr => imp_f_X11_isShare C x0 h Rr)
set_option maxHeartbeats 4000000 in
set_option maxRecDepth 100000 in
theorem imp_f_X11_isMix {κ : Kx Int32} (C : Cx κ cX11_isMix RX11 4 2 (40 * 2) []) (x1 : Int32) (x2 : Int32) (x3 : Int32)  (h : CH) (Rr : Rt κ (some .boolean) (fun (x : Int32) (_ : Nat → Nat) => some (Value.int x)) (fun (_ : Int32) => h)) : Imp κ 0 [(0, .ref (kad κ 0)), (1, .int (x1)), (2, .int (x2)), (3, .int (x3))] [] h (f_X11_isMix x1 x2 x3 h) := by
  unfold f_X11_isMix
  refine r_aload_n C 1 0 rfl dX11_isMix_0 rfl ?_
  refine r_getR C 4 dX11_isMix_1 flX11_35 kt_0 rfl rf_0_5 rfl ?_
  refine r_iload_n C 5 1 rfl dX11_isMix_4 rfl ?_
  refine r_cVpI C 8 [] (ok_f_X9_has_7 x1 h) dX11_isMix_5 lvX11_160 kt_7 rfl rfl rfl (by decide) (Nat.le_of_ble_eq_true rfl) rfl rfl (Nat.le_of_ble_eq_true rfl) rfl rfl (fun v_1 => ?_)
  refine r_if_eq C 11 38 dX11_isMix_8 (by decide) rfl (fun c_2 => ?_) (fun c_2 => ?_)
  · refine r_iconst C 39 (nI 0) (by decide) dX11_isMix_38 rfl ?_
    exact r_zret C Rr (by decide) dX11_isMix_39 (fun _ => rfl) rfl
  · refine r_aload_n C 12 0 rfl dX11_isMix_11 rfl ?_
    refine r_getR C 15 dX11_isMix_12 flX11_35 kt_0 rfl rf_0_5 rfl ?_
    refine r_iload_n C 16 2 rfl dX11_isMix_15 rfl ?_
    refine r_cVpI C 19 [] (ok_f_X9_has_7 x2 h) dX11_isMix_16 lvX11_160 kt_7 rfl rfl rfl (by decide) (Nat.le_of_ble_eq_true rfl) rfl rfl (Nat.le_of_ble_eq_true rfl) rfl rfl (fun v_3 => ?_)
    refine r_if_eq C 22 38 dX11_isMix_19 (by decide) rfl (fun c_4 => ?_) (fun c_4 => ?_)
    · refine r_iconst C 39 (nI 0) (by decide) dX11_isMix_38 rfl ?_
      exact r_zret C Rr (by decide) dX11_isMix_39 (fun _ => rfl) rfl
    · refine r_iload_n C 23 1 rfl dX11_isMix_22 rfl ?_
      refine r_iload_n C 24 2 rfl dX11_isMix_23 rfl ?_
      refine r_icmp_eq C 27 38 dX11_isMix_24 (by decide) rfl (fun c_5 => ?_) (fun c_5 => ?_)
      · refine r_iconst C 39 (nI 0) (by decide) dX11_isMix_38 rfl ?_
        exact r_zret C Rr (by decide) dX11_isMix_39 (fun _ => rfl) rfl
      · refine r_iload_n C 28 3 rfl dX11_isMix_27 rfl ?_
        refine r_cSpI C 31 [] (ok_f_X11_isShare x3 h) dX11_isMix_28 lsX11_230 rfl (by decide) (Nat.le_of_ble_eq_true rfl) rfl rfl (Nat.le_of_ble_eq_true rfl) rfl rfl (fun v_6 => ?_)
        refine r_if_eq C 34 38 dX11_isMix_31 (by decide) rfl (fun c_7 => ?_) (fun c_7 => ?_)
        · refine r_iconst C 39 (nI 0) (by decide) dX11_isMix_38 rfl ?_
          exact r_zret C Rr (by decide) dX11_isMix_39 (fun _ => rfl) rfl
        · refine r_iconst C 35 (nI 1) (by decide) dX11_isMix_34 rfl ?_
          refine r_goto C 39 dX11_isMix_35 (by decide) ?_
          exact r_zret C Rr (by decide) dX11_isMix_39 (fun _ => rfl) rfl
set_option maxHeartbeats 4000000 in
theorem ok_f_X11_isMix (x1 : Int32) (x2 : Int32) (x3 : Int32)  (h : CH) : ∀ q, f_X11_isMix x1 x2 x3 h = some q → MG yX11_isMix cX11_isMix 4 (some .boolean) [] 2 (fun ad => [.ref (ad 0), .int x1, .int x2, .int x3]) h ((fun (x : Int32) (_ : Nat → Nat) => some (Value.int x)) q) ((fun (_ : Int32) => h) q) := mg_of RX11 (by decide) rfl (fun _ => Nat.le_of_ble_eq_true rfl) (fun κ C Rr => imp_f_X11_isMix C x1 x2 x3 h Rr)
set_option maxHeartbeats 4000000 in
set_option maxRecDepth 100000 in
theorem imp_f_X11_isPrinterOrNot {κ : Kx Int32} (C : Cx κ cX11_isPrinterOrNot RX11 1 1 (40 * 1) []) (x0 : Int32)  (h : CH) (Rr : Rt κ (some .boolean) (fun (x : Int32) (_ : Nat → Nat) => some (Value.int x)) (fun (_ : Int32) => h)) : Imp κ 0 [(0, .int (x0))] [] h (f_X11_isPrinterOrNot x0 h) := by
  unfold f_X11_isPrinterOrNot
  refine r_iload_n C 1 0 rfl dX11_isPrinterOrNot_0 rfl ?_
  refine r_iconst C 2 (-1) (by decide) dX11_isPrinterOrNot_1 rfl ?_
  refine r_icmp_lt C 5 14 dX11_isPrinterOrNot_2 (by decide) rfl (fun c_1 => ?_) (fun c_1 => ?_)
  · refine r_iconst C 15 (nI 0) (by decide) dX11_isPrinterOrNot_14 rfl ?_
    exact r_zret C Rr (by decide) dX11_isPrinterOrNot_15 (fun _ => rfl) rfl
  · refine r_iload_n C 6 0 rfl dX11_isPrinterOrNot_5 rfl ?_
    refine r_iconst C 7 (nI 4) (by decide) dX11_isPrinterOrNot_6 rfl ?_
    refine r_icmp_ge C 10 14 dX11_isPrinterOrNot_7 (by decide) rfl (fun c_2 => ?_) (fun c_2 => ?_)
    · refine r_iconst C 11 (nI 1) (by decide) dX11_isPrinterOrNot_10 rfl ?_
      refine r_goto C 15 dX11_isPrinterOrNot_11 (by decide) ?_
      exact r_zret C Rr (by decide) dX11_isPrinterOrNot_15 (fun _ => rfl) rfl
    · refine r_iconst C 15 (nI 0) (by decide) dX11_isPrinterOrNot_14 rfl ?_
      exact r_zret C Rr (by decide) dX11_isPrinterOrNot_15 (fun _ => rfl) rfl
set_option maxHeartbeats 4000000 in
theorem ok_f_X11_isPrinterOrNot (x0 : Int32)  (h : CH) : ∀ q, f_X11_isPrinterOrNot x0 h = some q → MG yX11_isPrinterOrNot cX11_isPrinterOrNot 1 (some .boolean) [] 1 (fun ad => [.int x0]) h ((fun (x : Int32) (_ : Nat → Nat) => some (Value.int x)) q) ((fun (_ : Int32) => h) q) := mg_of RX11 (by decide) rfl (fun _ => Nat.le_of_ble_eq_true rfl) (fun κ C Rr => imp_f_X11_isPrinterOrNot C x0 h Rr)
set_option maxHeartbeats 4000000 in
set_option maxRecDepth 100000 in
theorem imp_f_X9_blurOf_7 {κ : Kx Int32} (C : Cx κ cX9_blurOf RX9 2 1 (40 * 1) []) (x1 : Int32)  (h : CH) (Rr : Rt κ (some .int) (fun (x : Int32) (_ : Nat → Nat) => some (Value.int x)) (fun (_ : Int32) => h)) : Imp κ 0 [(0, .ref (kad κ 7)), (1, .int (x1))] [] h (f_X9_blurOf_7 x1 h) := by
  unfold f_X9_blurOf_7
  refine r_iload_n C 1 1 rfl dX9_blurOf_0 rfl ?_
  refine r_if_lt C 4 18 dX9_blurOf_1 (by decide) rfl (fun c_1 => ?_) (fun c_1 => ?_)
  · refine r_iconst C 19 (nI 0) (by decide) dX9_blurOf_18 rfl ?_
    exact r_iret C Rr dX9_blurOf_19 (fun _ => rfl) rfl
  · refine r_iload_n C 5 1 rfl dX9_blurOf_4 rfl ?_
    refine r_iconst C 6 (nI 4) (by decide) dX9_blurOf_5 rfl ?_
    refine r_icmp_ge C 9 18 dX9_blurOf_6 (by decide) rfl (fun c_2 => ?_) (fun c_2 => ?_)
    · refine r_aload_n C 10 0 rfl dX9_blurOf_9 rfl ?_
      refine r_getR C 13 dX9_blurOf_10 flX9_43 kt_7 rfl rf_7_9 rfl ?_
      refine r_iload_n C 14 1 rfl dX9_blurOf_13 rfl ?_
      refine r_iald C 15 dX9_blurOf_14 kt_29 rfl rfl (fun v_3 => ?_)
      refine r_goto C 19 dX9_blurOf_15 (by decide) ?_
      exact r_iret C Rr dX9_blurOf_19 (fun _ => rfl) rfl
    · refine r_iconst C 19 (nI 0) (by decide) dX9_blurOf_18 rfl ?_
      exact r_iret C Rr dX9_blurOf_19 (fun _ => rfl) rfl
set_option maxHeartbeats 4000000 in
theorem ok_f_X9_blurOf_7 (x1 : Int32)  (h : CH) : ∀ q, f_X9_blurOf_7 x1 h = some q → MG yX9_blurOf cX9_blurOf 2 (some .int) [] 1 (fun ad => [.ref (ad 7), .int x1]) h ((fun (x : Int32) (_ : Nat → Nat) => some (Value.int x)) q) ((fun (_ : Int32) => h) q) := mg_of RX9 (by decide) rfl (fun _ => Nat.le_of_ble_eq_true rfl) (fun κ C Rr => imp_f_X9_blurOf_7 C x1 h Rr)
set_option maxHeartbeats 4000000 in
set_option maxRecDepth 100000 in
theorem imp_f_X9_mixed_7 {κ : Kx Int32} (C : Cx κ cX9_mixed RX9 5 2 (40 * 2) []) (x1 : Int32) (x2 : Int32) (x3 : Int32) (x4 : Int32)  (h : CH) (Rr : Rt κ (some .int) (fun (x : Int32) (_ : Nat → Nat) => some (Value.int x)) (fun (_ : Int32) => h)) : Imp κ 0 [(0, .ref (kad κ 7)), (1, .int (x1)), (2, .int (x2)), (3, .int (x3)), (4, .int (x4))] [] h (f_X9_mixed_7 x1 x2 x3 x4 h) := by
  unfold f_X9_mixed_7
  refine r_aload_n C 1 0 rfl dX9_mixed_0 rfl ?_
  refine r_iload_n C 2 1 rfl dX9_mixed_1 rfl ?_
  refine r_cVpI C 5 [] (ok_f_X9_has_7 x1 h) dX9_mixed_2 lvX9_59 kt_7 rfl rfl rfl (by decide) (Nat.le_of_ble_eq_true rfl) rfl rfl (Nat.le_of_ble_eq_true rfl) rfl rfl (fun v_1 => ?_)
  refine r_if_eq C 8 28 dX9_mixed_5 (by decide) rfl (fun c_2 => ?_) (fun c_2 => ?_)
  · refine r_iconst C 29 (nI 0) (by decide) dX9_mixed_28 rfl ?_
    exact r_iret C Rr dX9_mixed_29 (fun _ => rfl) rfl
  · refine r_aload_n C 9 0 rfl dX9_mixed_8 rfl ?_
    refine r_iload_n C 10 2 rfl dX9_mixed_9 rfl ?_
    refine r_cVpI C 13 [] (ok_f_X9_has_7 x2 h) dX9_mixed_10 lvX9_59 kt_7 rfl rfl rfl (by decide) (Nat.le_of_ble_eq_true rfl) rfl rfl (Nat.le_of_ble_eq_true rfl) rfl rfl (fun v_3 => ?_)
    refine r_if_eq C 16 28 dX9_mixed_13 (by decide) rfl (fun c_4 => ?_) (fun c_4 => ?_)
    · refine r_iconst C 29 (nI 0) (by decide) dX9_mixed_28 rfl ?_
      exact r_iret C Rr dX9_mixed_29 (fun _ => rfl) rfl
    · refine r_iload C 18 4 rfl dX9_mixed_16 rfl ?_
      refine r_if_lt C 21 28 dX9_mixed_18 (by decide) rfl (fun c_5 => ?_) (fun c_5 => ?_)
      · refine r_iconst C 29 (nI 0) (by decide) dX9_mixed_28 rfl ?_
        exact r_iret C Rr dX9_mixed_29 (fun _ => rfl) rfl
      · refine r_iload C 23 4 rfl dX9_mixed_21 rfl ?_
        refine r_bipush C 25 (nI 8) (by decide) dX9_mixed_23 rfl ?_
        refine r_icmp_lt C 28 30 dX9_mixed_25 (by decide) rfl (fun c_6 => ?_) (fun c_6 => ?_)
        · refine r_aload_n C 31 0 rfl dX9_mixed_30 rfl ?_
          refine r_getR C 34 dX9_mixed_31 flX9_37 kt_7 rfl rf_7_7 rfl ?_
          refine r_iload_n C 35 1 rfl dX9_mixed_34 rfl ?_
          refine r_aald C 36 dX9_mixed_35 kt_11 rfl rq_11 kq_11 rfl (fun q_7 hq_7 => ?_)
          refine r_iload C 38 4 rfl dX9_mixed_36 rfl ?_
          refine r_iald C 39 dX9_mixed_38 hq_7.1 (okid_lt hq_7.2) rfl (fun v_8 => ?_)
          refine r_iload_n C 40 3 rfl dX9_mixed_39 rfl ?_
          refine r_imul C 41 dX9_mixed_40 rfl ?_
          refine r_aload_n C 42 0 rfl dX9_mixed_41 rfl ?_
          refine r_getR C 45 dX9_mixed_42 flX9_37 kt_7 rfl rf_7_7 rfl ?_
          refine r_iload_n C 46 2 rfl dX9_mixed_45 rfl ?_
          refine r_aald C 47 dX9_mixed_46 kt_11 rfl rq_11 kq_11 rfl (fun q_9 hq_9 => ?_)
          refine r_iload C 49 4 rfl dX9_mixed_47 rfl ?_
          refine r_iald C 50 dX9_mixed_49 hq_9.1 (okid_lt hq_9.2) rfl (fun v_10 => ?_)
          refine r_bipush C 52 (nI 10) (by decide) dX9_mixed_50 rfl ?_
          refine r_iload_n C 53 3 rfl dX9_mixed_52 rfl ?_
          refine r_isub C 54 dX9_mixed_53 rfl ?_
          refine r_imul C 55 dX9_mixed_54 rfl ?_
          refine r_iadd C 56 dX9_mixed_55 rfl ?_
          refine r_bipush C 58 (nI 10) (by decide) dX9_mixed_56 rfl ?_
          refine r_idivk C 59 (by decide) dX9_mixed_58 rfl ?_
          exact r_iret C Rr dX9_mixed_59 (fun _ => rfl) rfl
        · refine r_iconst C 29 (nI 0) (by decide) dX9_mixed_28 rfl ?_
          exact r_iret C Rr dX9_mixed_29 (fun _ => rfl) rfl
set_option maxHeartbeats 4000000 in
theorem ok_f_X9_mixed_7 (x1 : Int32) (x2 : Int32) (x3 : Int32) (x4 : Int32)  (h : CH) : ∀ q, f_X9_mixed_7 x1 x2 x3 x4 h = some q → MG yX9_mixed cX9_mixed 5 (some .int) [] 2 (fun ad => [.ref (ad 7), .int x1, .int x2, .int x3, .int x4]) h ((fun (x : Int32) (_ : Nat → Nat) => some (Value.int x)) q) ((fun (_ : Int32) => h) q) := mg_of RX9 (by decide) rfl (fun _ => Nat.le_of_ble_eq_true rfl) (fun κ C Rr => imp_f_X9_mixed_7 C x1 x2 x3 x4 h Rr)
