/-! the methods do what the functions say, by program -/
set_option maxHeartbeats 4000000 in
set_option maxRecDepth 100000 in
theorem imp_f_X12_about {κ : Kx Int32} (C : Cx κ cX12_about RX12 2 2 (40 * 2) []) (x1 : Int32)  (h : CH) (Rr : Rt κ (some .int) (fun (x : Int32) (_ : Nat → Nat) => some (Value.int x)) (fun (_ : Int32) => h)) : Imp κ 0 [(0, .ref (kad κ 151)), (1, .int (x1))] [] h (f_X12_about x1 h) := by
  unfold f_X12_about
  refine r_iload_n C 1 1 rfl dX12_about_0 rfl ?_
  refine imp_ite (fun g_1 => ?_) (fun g_1 => ?_)
  · refine r_tsIn C 52 (nI 0) g_1 dX12_about_1 (by decide) (by decide) rfl (by decide) ?_
    refine r_aload_n C 53 0 rfl dX12_about_52 rfl ?_
    refine r_cVpI C 56 [] (ok_f_X12_many h) dX12_about_53 lvX12_399 kt_151 rfl rfl rfl (by decide) (Nat.le_of_ble_eq_true rfl) rfl rfl (Nat.le_of_ble_eq_true rfl) rfl rfl (fun v_2 => ?_)
    exact r_iret C Rr dX12_about_56 (fun _ => rfl) rfl
  · refine imp_ite (fun g_3 => ?_) (fun g_3 => ?_)
    · refine r_tsIn C 57 (nI 1) g_3 dX12_about_1 (by decide) (by decide) rfl (by decide) ?_
      refine r_aload_n C 58 0 rfl dX12_about_57 rfl ?_
      refine r_cVpI C 61 [] (ok_f_X12_pointMany h) dX12_about_58 lvX12_406 kt_151 rfl rfl rfl (by decide) (Nat.le_of_ble_eq_true rfl) rfl rfl (Nat.le_of_ble_eq_true rfl) rfl rfl (fun v_4 => ?_)
      exact r_iret C Rr dX12_about_61 (fun _ => rfl) rfl
    · refine imp_ite (fun g_5 => ?_) (fun g_5 => ?_)
      · refine r_tsIn C 62 (nI 2) g_5 dX12_about_1 (by decide) (by decide) rfl (by decide) ?_
        refine r_aload_n C 63 0 rfl dX12_about_62 rfl ?_
        refine r_getI C 66 dX12_about_63 flX12_281 kt_151 rfl rfl ?_
        exact r_iret C Rr dX12_about_66 (fun _ => rfl) rfl
      · refine imp_ite (fun g_6 => ?_) (fun g_6 => ?_)
        · refine r_tsIn C 67 (nI 3) g_6 dX12_about_1 (by decide) (by decide) rfl (by decide) ?_
          refine r_aload_n C 68 0 rfl dX12_about_67 rfl ?_
          refine r_getI C 71 dX12_about_68 flX12_275 kt_151 rfl rfl ?_
          exact r_iret C Rr dX12_about_71 (fun _ => rfl) rfl
        · refine imp_ite (fun g_7 => ?_) (fun g_7 => ?_)
          · refine r_tsIn C 72 (nI 4) g_7 dX12_about_1 (by decide) (by decide) rfl (by decide) ?_
            refine r_aload_n C 73 0 rfl dX12_about_72 rfl ?_
            refine r_getI C 76 dX12_about_73 flX12_458 kt_151 rfl rfl ?_
            exact r_iret C Rr dX12_about_76 (fun _ => rfl) rfl
          · refine imp_ite (fun g_8 => ?_) (fun g_8 => ?_)
            · refine r_tsIn C 77 (nI 5) g_8 dX12_about_1 (by decide) (by decide) rfl (by decide) ?_
              refine r_aload_n C 78 0 rfl dX12_about_77 rfl ?_
              refine r_getI C 81 dX12_about_78 flX12_260 kt_151 rfl rfl ?_
              exact r_iret C Rr dX12_about_81 (fun _ => rfl) rfl
            · refine imp_ite (fun g_9 => ?_) (fun g_9 => ?_)
              · refine r_tsIn C 82 (nI 6) g_9 dX12_about_1 (by decide) (by decide) rfl (by decide) ?_
                refine r_aload_n C 83 0 rfl dX12_about_82 rfl ?_
                refine r_getI C 86 dX12_about_83 flX12_284 kt_151 rfl rfl ?_
                exact r_iret C Rr dX12_about_86 (fun _ => rfl) rfl
              · refine imp_ite (fun g_10 => ?_) (fun g_10 => ?_)
                · refine r_tsIn C 87 (nI 7) g_10 dX12_about_1 (by decide) (by decide) rfl (by decide) ?_
                  refine r_aload_n C 88 0 rfl dX12_about_87 rfl ?_
                  refine r_getR C 91 dX12_about_88 flX12_27 kt_151 rfl rf_151_14 rfl ?_
                  refine r_aload_n C 92 0 rfl dX12_about_91 rfl ?_
                  refine r_getI C 95 dX12_about_92 flX12_269 kt_151 rfl rfl ?_
                  refine r_iald C 96 dX12_about_95 kt_156 rfl rfl (fun v_11 => ?_)
                  exact r_iret C Rr dX12_about_96 (fun _ => rfl) rfl
                · refine imp_ite (fun g_12 => ?_) (fun g_12 => ?_)
                  · refine r_tsIn C 97 (nI 8) g_12 dX12_about_1 (by decide) (by decide) rfl (by decide) ?_
                    refine r_aload_n C 98 0 rfl dX12_about_97 rfl ?_
                    refine r_getR C 101 dX12_about_98 flX12_30 kt_151 rfl rf_151_15 rfl ?_
                    refine r_aload_n C 102 0 rfl dX12_about_101 rfl ?_
                    refine r_getI C 105 dX12_about_102 flX12_269 kt_151 rfl rfl ?_
                    refine r_iald C 106 dX12_about_105 kt_157 rfl rfl (fun v_13 => ?_)
                    exact r_iret C Rr dX12_about_106 (fun _ => rfl) rfl
                  · refine r_tsOut C 107 dX12_about_1 (ts_out ?_) (by decide) ?_
                    · intro v h1 h2 e
                      have hv : v = 0 ∨ v = 1 ∨ v = 2 ∨ v = 3 ∨ v = 4 ∨ v = 5 ∨ v = 6 ∨ v = 7 ∨ v = 8 := by omega
                      rcases hv with rfl | rfl | rfl | rfl | rfl | rfl | rfl | rfl | rfl
                      · exact g_1 (e.trans (by decide))
                      · exact g_3 (e.trans (by decide))
                      · exact g_5 (e.trans (by decide))
                      · exact g_6 (e.trans (by decide))
                      · exact g_7 (e.trans (by decide))
                      · exact g_8 (e.trans (by decide))
                      · exact g_9 (e.trans (by decide))
                      · exact g_10 (e.trans (by decide))
                      · exact g_12 (e.trans (by decide))
                    · refine r_iconst C 108 (-1) (by decide) dX12_about_107 rfl ?_
                      exact r_iret C Rr dX12_about_108 (fun _ => rfl) rfl
set_option maxHeartbeats 4000000 in
theorem ok_f_X12_about (x1 : Int32)  (h : CH) : ∀ q, f_X12_about x1 h = some q → MG yX12_about cX12_about 2 (some .int) [] 2 (fun ad => [.ref (ad 151), .int x1]) h ((fun (x : Int32) (_ : Nat → Nat) => some (Value.int x)) q) ((fun (_ : Int32) => h) q) := mg_of RX12 (by decide) rfl (fun _ => Nat.le_of_ble_eq_true rfl) (fun κ C Rr => imp_f_X12_about C x1 h Rr)
set_option maxHeartbeats 4000000 in
set_option maxRecDepth 100000 in
theorem imp_f_X12_feed_L18 {κ : Kx (Int32 × CH)} (C : Cx κ cX12_feed RX12 8 1 (40 * 1) []) (x1 : Int32) (x2 : Int32) (x3 : Int32) (x4 : Int32) (x5 : Int32)    (Rr : Rt κ (some .int) (fun (q : Int32 × CH) (_ : Nat → Nat) => some (Value.int q.1)) (fun (q : (Int32 × CH)) => q.2)) : ∀ (n : Nat) (x6 : Int32) (h : CH), Imp κ 18 [(0, .ref (kad κ 151)), (1, .int (x1)), (2, .int (x2)), (3, .int (x3)), (4, .int (x4)), (5, .int (x5)), (6, .int (x6))] [] h (f_X12_feed_L18 x1 x2 x3 x4 x5 n x6 h) := by
  intro n
  induction n with
  | zero => intros; exact imp_none
  | succ n ih =>
    intro x6 h
    rw [f_X12_feed_L18]
    refine r_iload C 20 6 rfl dX12_feed_18 rfl ?_
    refine r_bipush C 22 (nI 20) (by decide) dX12_feed_20 rfl ?_
    refine r_icmp_ge C 25 105 dX12_feed_22 (by decide) rfl (fun c_2 => ?_) (fun c_2 => ?_)
    · refine r_iload C 27 6 rfl dX12_feed_25 rfl ?_
      refine r_iconst C 28 (nI 4) (by decide) dX12_feed_27 rfl ?_
      refine imp_jn (fun (j_4 : Int32 → Option (Int32 × CH)) => ∀ (s_3 : Int32), Imp κ 71 [(0, .ref (kad κ 151)), (1, .int (x1)), (2, .int (x2)), (3, .int (x3)), (4, .int (x4)), (5, .int (x5)), (6, .int (x6))] [.int (s_3)] h (j_4 s_3)) ?_ ?_
      · intro s_3
        refine r_istore C 73 [(7, .int (s_3)), (0, .ref (kad κ 151)), (1, .int (x1)), (2, .int (x2)), (3, .int (x3)), (4, .int (x4)), (5, .int (x5)), (6, .int (x6))] dX12_feed_71 (by decide) rfl rfl ?_
        refine r_aload_n C 74 1 rfl dX12_feed_73 rfl ?_
        refine r_getR C 77 dX12_feed_74 flX12_7 kt_151 rfl rf_151_0 rfl ?_
        refine r_aload_n C 78 1 rfl dX12_feed_77 rfl ?_
        refine r_getI C 81 dX12_feed_78 flX12_260 kt_151 rfl rfl ?_
        refine r_iload C 83 7 rfl dX12_feed_81 rfl ?_
        refine r_iadd C 84 dX12_feed_83 rfl ?_
        refine r_iload C 86 0 rfl dX12_feed_84 rfl ?_
        refine r_bipush C 88 (nI 24) (by decide) dX12_feed_86 rfl ?_
        refine r_bipush C 90 (nI 8) (by decide) dX12_feed_88 rfl ?_
        refine r_iload C 92 7 rfl dX12_feed_90 rfl ?_
        refine r_iconst C 93 (nI 3) (by decide) dX12_feed_92 rfl ?_
        refine r_iand C 94 dX12_feed_93 rfl ?_
        refine r_imul C 95 dX12_feed_94 rfl ?_
        refine r_isub C 96 dX12_feed_95 rfl ?_
        refine r_ishr C 97 dX12_feed_96 rfl ?_
        refine r_i2b C 98 dX12_feed_97 rfl ?_
        refine r_bast C 99 dX12_feed_98 kt_152 rfl rfl (fun h_5 => ?_)
        refine r_iinc C 102 7 (nI 1) [(6, .int (x6 + (nI 1))), (7, .int (s_3)), (0, .ref (kad κ 151)), (1, .int (x1)), (2, .int (x2)), (3, .int (x3)), (4, .int (x4)), (5, .int (x5))] dX12_feed_99 rfl (by decide) (by decide) rfl rfl ?_
        refine r_goto C 18 dX12_feed_102 (by decide) ?_
        exact imp_sub [(0, .ref (kad κ 151)), (1, .int (x1)), (2, .int (x2)), (3, .int (x3)), (4, .int (x4)), (5, .int (x5)), (6, .int (x6 + (nI 1)))] [2, 3, 4, 5, 6, 7, 0] rfl (ih (x6 + (nI 1)) h_5)
      · intro j_4 hj_4
        refine r_icmp_ge C 31 35 dX12_feed_28 (by decide) rfl (fun c_6 => ?_) (fun c_6 => ?_)
        · refine r_iload_n C 32 1 rfl dX12_feed_31 rfl ?_
          refine r_goto C 71 dX12_feed_32 (by decide) ?_
          exact imp_sub [(0, .ref (kad κ 151)), (1, .int (x1)), (2, .int (x2)), (3, .int (x3)), (4, .int (x4)), (5, .int (x5)), (6, .int (x6))] [0, 1, 2, 3, 4, 5, 6] rfl (hj_4 (x1))
        · refine r_iload C 37 6 rfl dX12_feed_35 rfl ?_
          refine r_bipush C 39 (nI 8) (by decide) dX12_feed_37 rfl ?_
          refine r_icmp_ge C 42 46 dX12_feed_39 (by decide) rfl (fun c_7 => ?_) (fun c_7 => ?_)
          · refine r_iload_n C 43 2 rfl dX12_feed_42 rfl ?_
            refine r_goto C 71 dX12_feed_43 (by decide) ?_
            exact imp_sub [(0, .ref (kad κ 151)), (1, .int (x1)), (2, .int (x2)), (3, .int (x3)), (4, .int (x4)), (5, .int (x5)), (6, .int (x6))] [0, 1, 2, 3, 4, 5, 6] rfl (hj_4 (x2))
          · refine r_iload C 48 6 rfl dX12_feed_46 rfl ?_
            refine r_bipush C 50 (nI 12) (by decide) dX12_feed_48 rfl ?_
            refine r_icmp_ge C 53 57 dX12_feed_50 (by decide) rfl (fun c_8 => ?_) (fun c_8 => ?_)
            · refine r_iload_n C 54 3 rfl dX12_feed_53 rfl ?_
              refine r_goto C 71 dX12_feed_54 (by decide) ?_
              exact imp_sub [(0, .ref (kad κ 151)), (1, .int (x1)), (2, .int (x2)), (3, .int (x3)), (4, .int (x4)), (5, .int (x5)), (6, .int (x6))] [0, 1, 2, 3, 4, 5, 6] rfl (hj_4 (x3))
            · refine r_iload C 59 6 rfl dX12_feed_57 rfl ?_
              refine r_bipush C 61 (nI 16) (by decide) dX12_feed_59 rfl ?_
              refine r_icmp_ge C 64 69 dX12_feed_61 (by decide) rfl (fun c_9 => ?_) (fun c_9 => ?_)
              · refine r_iload C 66 4 rfl dX12_feed_64 rfl ?_
                refine r_goto C 71 dX12_feed_66 (by decide) ?_
                exact imp_sub [(0, .ref (kad κ 151)), (1, .int (x1)), (2, .int (x2)), (3, .int (x3)), (4, .int (x4)), (5, .int (x5)), (6, .int (x6))] [0, 1, 2, 3, 4, 5, 6] rfl (hj_4 (x4))
              · refine r_iload C 71 5 rfl dX12_feed_69 rfl ?_
                exact imp_sub [(0, .ref (kad κ 151)), (1, .int (x1)), (2, .int (x2)), (3, .int (x3)), (4, .int (x4)), (5, .int (x5)), (6, .int (x6))] [0, 1, 2, 3, 4, 5, 6] rfl (hj_4 (x5))
    · refine r_aload_n C 106 0 rfl dX12_feed_105 rfl ?_
      refine r_dup C 107 rfl dX12_feed_106 rfl ?_
      refine r_getI C 110 dX12_feed_107 flX12_260 kt_151 rfl rfl ?_
      refine r_bipush C 112 (nI 20) (by decide) dX12_feed_110 rfl ?_
      refine r_iadd C 113 dX12_feed_112 rfl ?_
      refine r_putI C 116 dX12_feed_113 flX12_260 kt_151 rfl rfl (fun h_10 => ?_)
      refine r_aload_n C 117 0 rfl dX12_feed_116 rfl ?_
      refine r_getI C 120 dX12_feed_117 flX12_260 kt_151 rfl rfl ?_
      exact r_iret C Rr dX12_feed_120 (fun _ => rfl) rfl
set_option maxHeartbeats 4000000 in
set_option maxRecDepth 100000 in
theorem imp_f_X12_feed {κ : Kx (Int32 × CH)} (C : Cx κ cX12_feed RX12 8 1 (40 * 1) []) (x1 : Int32) (x2 : Int32) (x3 : Int32) (x4 : Int32) (x5 : Int32)  (h : CH) (Rr : Rt κ (some .int) (fun (q : Int32 × CH) (_ : Nat → Nat) => some (Value.int q.1)) (fun (q : (Int32 × CH)) => q.2)) : Imp κ 0 [(0, .ref (kad κ 151)), (1, .int (x1)), (2, .int (x2)), (3, .int (x3)), (4, .int (x4)), (5, .int (x5))] [] h (f_X12_feed x1 x2 x3 x4 x5 h) := by
  unfold f_X12_feed
  refine r_aload_n C 1 0 rfl dX12_feed_0 rfl ?_
  refine r_getI C 4 dX12_feed_1 flX12_260 kt_151 rfl rfl ?_
  refine r_bipush C 6 (nI 20) (by decide) dX12_feed_4 rfl ?_
  refine r_iadd C 7 dX12_feed_6 rfl ?_
  refine r_sipush C 10 (nI 1600) (by decide) dX12_feed_7 rfl ?_
  refine r_icmp_le C 13 15 dX12_feed_10 (by decide) rfl (fun c_1 => ?_) (fun c_1 => ?_)
  · refine r_iconst C 14 (-1) (by decide) dX12_feed_13 rfl ?_
    exact r_iret C Rr dX12_feed_14 (fun _ => rfl) rfl
  · refine r_iconst C 16 (nI 0) (by decide) dX12_feed_15 rfl ?_
    refine r_istore C 18 [(6, .int ((nI 0))), (0, .ref (kad κ 151)), (1, .int (x1)), (2, .int (x2)), (3, .int (x3)), (4, .int (x4)), (5, .int (x5))] dX12_feed_16 (by decide) rfl rfl ?_
    refine imp_sub [(0, .ref (kad κ 151)), (1, .int (x1)), (2, .int (x2)), (3, .int (x3)), (4, .int (x4)), (5, .int (x5)), (6, .int ((nI 0)))] [1, 2, 3, 4, 5, 6, 0] rfl ?_
    refine imp_f_X12_feed_L18 C (x1) (x2) (x3) (x4) (x5) Rr FU ((nI 0)) h
set_option maxHeartbeats 4000000 in
theorem ok_f_X12_feed (x1 : Int32) (x2 : Int32) (x3 : Int32) (x4 : Int32) (x5 : Int32)  (h : CH) : ∀ q, f_X12_feed x1 x2 x3 x4 x5 h = some q → MG yX12_feed cX12_feed 8 (some .int) [] 1 (fun ad => [.ref (ad 151), .int x1, .int x2, .int x3, .int x4, .int x5]) h ((fun (q : Int32 × CH) (_ : Nat → Nat) => some (Value.int q.1)) q) ((fun (q : (Int32 × CH)) => q.2) q) := mg_of RX12 (by decide) rfl (fun _ => Nat.le_of_ble_eq_true rfl) (fun κ C Rr => imp_f_X12_feed C x1 x2 x3 x4 x5 h Rr)
set_option maxHeartbeats 4000000 in
set_option maxRecDepth 100000 in
theorem imp_f_X12_end {κ : Kx (Int32 × CH)} (C : Cx κ cX12_end RX12 2 1 (40 * 1) []) (x1 : Int32)  (h : CH) (Rr : Rt κ (some .int) (fun (q : Int32 × CH) (_ : Nat → Nat) => some (Value.int q.1)) (fun (q : (Int32 × CH)) => q.2)) : Imp κ 0 [(0, .ref (kad κ 151)), (1, .int (x1))] [] h (f_X12_end x1 h) := by
  unfold f_X12_end
  refine r_iload_n C 1 1 rfl dX12_end_0 rfl ?_
  refine r_if_lt C 4 12 dX12_end_1 (by decide) rfl (fun c_1 => ?_) (fun c_1 => ?_)
  · refine r_iconst C 13 (-1) (by decide) dX12_end_12 rfl ?_
    exact r_iret C Rr dX12_end_13 (fun _ => rfl) rfl
  · refine r_iload_n C 5 1 rfl dX12_end_4 rfl ?_
    refine r_aload_n C 6 0 rfl dX12_end_5 rfl ?_
    refine r_getI C 9 dX12_end_6 flX12_260 kt_151 rfl rfl ?_
    refine r_icmp_le C 12 14 dX12_end_9 (by decide) rfl (fun c_2 => ?_) (fun c_2 => ?_)
    · refine r_iconst C 13 (-1) (by decide) dX12_end_12 rfl ?_
      exact r_iret C Rr dX12_end_13 (fun _ => rfl) rfl
    · refine r_aload_n C 15 0 rfl dX12_end_14 rfl ?_
      refine r_iload_n C 16 1 rfl dX12_end_15 rfl ?_
      refine r_putI C 19 dX12_end_16 flX12_260 kt_151 rfl rfl (fun h_3 => ?_)
      refine r_iload_n C 20 1 rfl dX12_end_19 rfl ?_
      exact r_iret C Rr dX12_end_20 (fun _ => rfl) rfl
set_option maxHeartbeats 4000000 in
theorem ok_f_X12_end (x1 : Int32)  (h : CH) : ∀ q, f_X12_end x1 h = some q → MG yX12_end cX12_end 2 (some .int) [] 1 (fun ad => [.ref (ad 151), .int x1]) h ((fun (q : Int32 × CH) (_ : Nat → Nat) => some (Value.int q.1)) q) ((fun (q : (Int32 × CH)) => q.2) q) := mg_of RX12 (by decide) rfl (fun _ => Nat.le_of_ble_eq_true rfl) (fun κ C Rr => imp_f_X12_end C x1 h Rr)
set_option maxHeartbeats 4000000 in
set_option maxRecDepth 100000 in
theorem imp_f_X8_step {κ : Kx (Unit × CH)} (C : Cx κ cX8_step RX8 1 1 (40 * 1) [])   (h : CH) (Rr : Rt κ none (fun (_ : Unit × CH) (_ : Nat → Nat) => (none : Option Value)) (fun (q : (Unit × CH)) => q.2)) : Imp κ 0 [(0, .ref (kad κ 2))] [] h (f_X8_step h) := by
  unfold f_X8_step
  refine r_aload_n C 1 0 rfl dX8_step_0 rfl ?_
  refine r_getI C 4 dX8_step_1 flX8_39 kt_2 rfl rfl ?_
  refine r_iconst C 5 (nI 1) (by decide) dX8_step_4 rfl ?_
  refine r_iadd C 6 dX8_step_5 rfl ?_
  refine r_aload_n C 7 0 rfl dX8_step_6 rfl ?_
  refine r_getI C 10 dX8_step_7 flX8_36 kt_2 rfl rfl ?_
  refine imp_jn (fun (j_2 : CH → Option (Unit × CH)) => ∀ (h_1 : CH), Imp κ 23 [(0, .ref (kad κ 2))] [] h_1 (j_2 h_1)) ?_ ?_
  · intro h_1
    refine r_aload_n C 24 0 rfl dX8_step_23 rfl ?_
    refine r_getI C 27 dX8_step_24 flX8_39 kt_2 rfl rfl ?_
    refine r_if_lt C 30 80 dX8_step_27 (by decide) rfl (fun c_3 => ?_) (fun c_3 => ?_)
    · exact r_vret C Rr dX8_step_80 (fun _ => rfl) rfl
    · refine r_aload_n C 31 0 rfl dX8_step_30 rfl ?_
      refine r_getI C 34 dX8_step_31 flX8_39 kt_2 rfl rfl ?_
      refine r_sipush C 37 (nI 1601) (by decide) dX8_step_34 rfl ?_
      refine r_icmp_ge C 40 80 dX8_step_37 (by decide) rfl (fun c_4 => ?_) (fun c_4 => ?_)
      · refine r_aload_n C 41 0 rfl dX8_step_40 rfl ?_
        refine r_aload_n C 42 0 rfl dX8_step_41 rfl ?_
        refine r_getR C 45 dX8_step_42 flX8_15 kt_2 rfl rf_2_2 rfl ?_
        refine r_aload_n C 46 0 rfl dX8_step_45 rfl ?_
        refine r_getI C 49 dX8_step_46 flX8_39 kt_2 rfl rfl ?_
        refine r_iald C 50 dX8_step_49 kt_4 rfl rfl (fun v_5 => ?_)
        refine r_putI C 53 dX8_step_50 flX8_42 kt_2 rfl rfl (fun h_6 => ?_)
        refine r_aload_n C 54 0 rfl dX8_step_53 rfl ?_
        refine r_aload_n C 55 0 rfl dX8_step_54 rfl ?_
        refine r_getR C 58 dX8_step_55 flX8_22 kt_2 rfl rf_2_4 rfl ?_
        refine r_aload_n C 59 0 rfl dX8_step_58 rfl ?_
        refine r_getI C 62 dX8_step_59 flX8_39 kt_2 rfl rfl ?_
        refine r_lald C 63 dX8_step_62 kt_6 rfl rfl (fun v_7 => ?_)
        refine r_putJ C 66 dX8_step_63 flX8_48 kt_2 rfl rfl (fun h_8 => ?_)
        refine r_aload_n C 67 0 rfl dX8_step_66 rfl ?_
        refine r_aload_n C 68 0 rfl dX8_step_67 rfl ?_
        refine r_getR C 71 dX8_step_68 flX8_22 kt_2 rfl rf_2_4 rfl ?_
        refine r_aload_n C 72 0 rfl dX8_step_71 rfl ?_
        refine r_getI C 75 dX8_step_72 flX8_39 kt_2 rfl rfl ?_
        refine r_lald C 76 dX8_step_75 kt_6 rfl rfl (fun v_9 => ?_)
        refine r_l2i C 77 dX8_step_76 rfl ?_
        refine r_putI C 80 dX8_step_77 flX8_45 kt_2 rfl rfl (fun h_10 => ?_)
        exact r_vret C Rr dX8_step_80 (fun _ => rfl) rfl
      · exact r_vret C Rr dX8_step_80 (fun _ => rfl) rfl
  · intro j_2 hj_2
    refine r_icmp_ge C 13 23 dX8_step_10 (by decide) rfl (fun c_11 => ?_) (fun c_11 => ?_)
    · refine r_aload_n C 14 0 rfl dX8_step_13 rfl ?_
      refine r_dup C 15 rfl dX8_step_14 rfl ?_
      refine r_getI C 18 dX8_step_15 flX8_39 kt_2 rfl rfl ?_
      refine r_iconst C 19 (nI 1) (by decide) dX8_step_18 rfl ?_
      refine r_iadd C 20 dX8_step_19 rfl ?_
      refine r_putI C 23 dX8_step_20 flX8_39 kt_2 rfl rfl (fun h_12 => ?_)
      exact imp_sub [(0, .ref (kad κ 2))] [0] rfl (hj_2 h_12)
    · exact imp_sub [(0, .ref (kad κ 2))] [0] rfl (hj_2 h)
set_option maxHeartbeats 4000000 in
theorem ok_f_X8_step   (h : CH) : ∀ q, f_X8_step h = some q → MG yX8_step cX8_step 1 none [] 1 (fun ad => [.ref (ad 2)]) h ((fun (_ : Unit × CH) (_ : Nat → Nat) => (none : Option Value)) q) ((fun (q : (Unit × CH)) => q.2) q) := mg_of RX8 (by decide) rfl (fun _ => Nat.le_of_ble_eq_true rfl) (fun κ C Rr => imp_f_X8_step C  h Rr)
set_option maxHeartbeats 4000000 in
set_option maxRecDepth 100000 in
theorem imp_f_X8_byteAt {κ : Kx Int32} (C : Cx κ cX8_byteAt RX8 2 1 (40 * 1) []) (x1 : Int32)  (h : CH) (Rr : Rt κ (some .int) (fun (x : Int32) (_ : Nat → Nat) => some (Value.int x)) (fun (_ : Int32) => h)) : Imp κ 0 [(0, .ref (kad κ 2)), (1, .int (x1))] [] h (f_X8_byteAt x1 h) := by
  unfold f_X8_byteAt
  refine r_iload_n C 1 1 rfl dX8_byteAt_0 rfl ?_
  refine r_if_lt C 4 34 dX8_byteAt_1 (by decide) rfl (fun c_1 => ?_) (fun c_1 => ?_)
  · refine r_iconst C 35 (nI 0) (by decide) dX8_byteAt_34 rfl ?_
    exact r_iret C Rr dX8_byteAt_35 (fun _ => rfl) rfl
  · refine r_iload_n C 5 1 rfl dX8_byteAt_4 rfl ?_
    refine r_aload_n C 6 0 rfl dX8_byteAt_5 rfl ?_
    refine r_getI C 9 dX8_byteAt_6 flX8_25 kt_2 rfl rfl ?_
    refine r_icmp_ge C 12 34 dX8_byteAt_9 (by decide) rfl (fun c_2 => ?_) (fun c_2 => ?_)
    · refine r_iload_n C 13 1 rfl dX8_byteAt_12 rfl ?_
      refine r_aload_n C 14 0 rfl dX8_byteAt_13 rfl ?_
      refine r_getR C 17 dX8_byteAt_14 flX8_58 kt_2 rfl rf_2_0 rfl ?_
      refine r_alenB C 18 (nI 1600) dX8_byteAt_17 kt_1 rfl (by decide) rfl ?_
      refine r_icmp_ge C 21 34 dX8_byteAt_18 (by decide) rfl (fun c_3 => ?_) (fun c_3 => ?_)
      · refine r_aload_n C 22 0 rfl dX8_byteAt_21 rfl ?_
        refine r_getR C 25 dX8_byteAt_22 flX8_58 kt_2 rfl rf_2_0 rfl ?_
        refine r_iload_n C 26 1 rfl dX8_byteAt_25 rfl ?_
        refine r_bald C 27 dX8_byteAt_26 kt_1 rfl rfl (fun v_4 => ?_)
        refine r_sipush C 30 (nI 255) (by decide) dX8_byteAt_27 rfl ?_
        refine r_iand C 31 dX8_byteAt_30 rfl ?_
        refine r_goto C 35 dX8_byteAt_31 (by decide) ?_
        exact r_iret C Rr dX8_byteAt_35 (fun _ => rfl) rfl
      · refine r_iconst C 35 (nI 0) (by decide) dX8_byteAt_34 rfl ?_
        exact r_iret C Rr dX8_byteAt_35 (fun _ => rfl) rfl
    · refine r_iconst C 35 (nI 0) (by decide) dX8_byteAt_34 rfl ?_
      exact r_iret C Rr dX8_byteAt_35 (fun _ => rfl) rfl
set_option maxHeartbeats 4000000 in
theorem ok_f_X8_byteAt (x1 : Int32)  (h : CH) : ∀ q, f_X8_byteAt x1 h = some q → MG yX8_byteAt cX8_byteAt 2 (some .int) [] 1 (fun ad => [.ref (ad 2), .int x1]) h ((fun (x : Int32) (_ : Nat → Nat) => some (Value.int x)) q) ((fun (_ : Int32) => h) q) := mg_of RX8 (by decide) rfl (fun _ => Nat.le_of_ble_eq_true rfl) (fun κ C Rr => imp_f_X8_byteAt C x1 h Rr)
set_option maxHeartbeats 4000000 in
set_option maxRecDepth 100000 in
theorem imp_f_X8_isLetter {κ : Kx Int32} (C : Cx κ cX8_isLetter RX8 1 1 (40 * 1) []) (x0 : Int32)  (h : CH) (Rr : Rt κ (some .boolean) (fun (x : Int32) (_ : Nat → Nat) => some (Value.int x)) (fun (_ : Int32) => h)) : Imp κ 0 [(0, .int (x0))] [] h (f_X8_isLetter x0 h) := by
  unfold f_X8_isLetter
  refine r_iload_n C 1 0 rfl dX8_isLetter_0 rfl ?_
  refine r_bipush C 3 (nI 97) (by decide) dX8_isLetter_1 rfl ?_
  refine r_icmp_lt C 6 16 dX8_isLetter_3 (by decide) rfl (fun c_1 => ?_) (fun c_1 => ?_)
  · refine r_iconst C 17 (nI 0) (by decide) dX8_isLetter_16 rfl ?_
    exact r_zret C Rr (by decide) dX8_isLetter_17 (fun _ => rfl) rfl
  · refine r_iload_n C 7 0 rfl dX8_isLetter_6 rfl ?_
    refine r_bipush C 9 (nI 122) (by decide) dX8_isLetter_7 rfl ?_
    refine r_icmp_gt C 12 16 dX8_isLetter_9 (by decide) rfl (fun c_2 => ?_) (fun c_2 => ?_)
    · refine r_iconst C 17 (nI 0) (by decide) dX8_isLetter_16 rfl ?_
      exact r_zret C Rr (by decide) dX8_isLetter_17 (fun _ => rfl) rfl
    · refine r_iconst C 13 (nI 1) (by decide) dX8_isLetter_12 rfl ?_
      refine r_goto C 17 dX8_isLetter_13 (by decide) ?_
      exact r_zret C Rr (by decide) dX8_isLetter_17 (fun _ => rfl) rfl
set_option maxHeartbeats 4000000 in
theorem ok_f_X8_isLetter (x0 : Int32)  (h : CH) : ∀ q, f_X8_isLetter x0 h = some q → MG yX8_isLetter cX8_isLetter 1 (some .boolean) [] 1 (fun ad => [.int x0]) h ((fun (x : Int32) (_ : Nat → Nat) => some (Value.int x)) q) ((fun (_ : Int32) => h) q) := mg_of RX8 (by decide) rfl (fun _ => Nat.le_of_ble_eq_true rfl) (fun κ C Rr => imp_f_X8_isLetter C x0 h Rr)
set_option maxHeartbeats 4000000 in
set_option maxRecDepth 100000 in
theorem imp_f_X8_isDigit {κ : Kx Int32} (C : Cx κ cX8_isDigit RX8 1 1 (40 * 1) []) (x0 : Int32)  (h : CH) (Rr : Rt κ (some .boolean) (fun (x : Int32) (_ : Nat → Nat) => some (Value.int x)) (fun (_ : Int32) => h)) : Imp κ 0 [(0, .int (x0))] [] h (f_X8_isDigit x0 h) := by
  unfold f_X8_isDigit
  refine r_iload_n C 1 0 rfl dX8_isDigit_0 rfl ?_
  refine r_bipush C 3 (nI 48) (by decide) dX8_isDigit_1 rfl ?_
  refine r_icmp_lt C 6 16 dX8_isDigit_3 (by decide) rfl (fun c_1 => ?_) (fun c_1 => ?_)
  · refine r_iconst C 17 (nI 0) (by decide) dX8_isDigit_16 rfl ?_
    exact r_zret C Rr (by decide) dX8_isDigit_17 (fun _ => rfl) rfl
  · refine r_iload_n C 7 0 rfl dX8_isDigit_6 rfl ?_
    refine r_bipush C 9 (nI 57) (by decide) dX8_isDigit_7 rfl ?_
    refine r_icmp_gt C 12 16 dX8_isDigit_9 (by decide) rfl (fun c_2 => ?_) (fun c_2 => ?_)
    · refine r_iconst C 17 (nI 0) (by decide) dX8_isDigit_16 rfl ?_
      exact r_zret C Rr (by decide) dX8_isDigit_17 (fun _ => rfl) rfl
    · refine r_iconst C 13 (nI 1) (by decide) dX8_isDigit_12 rfl ?_
      refine r_goto C 17 dX8_isDigit_13 (by decide) ?_
      exact r_zret C Rr (by decide) dX8_isDigit_17 (fun _ => rfl) rfl
set_option maxHeartbeats 4000000 in
theorem ok_f_X8_isDigit (x0 : Int32)  (h : CH) : ∀ q, f_X8_isDigit x0 h = some q → MG yX8_isDigit cX8_isDigit 1 (some .boolean) [] 1 (fun ad => [.int x0]) h ((fun (x : Int32) (_ : Nat → Nat) => some (Value.int x)) q) ((fun (_ : Int32) => h) q) := mg_of RX8 (by decide) rfl (fun _ => Nat.le_of_ble_eq_true rfl) (fun κ C Rr => imp_f_X8_isDigit C x0 h Rr)
set_option maxHeartbeats 4000000 in
set_option maxRecDepth 100000 in
theorem imp_f_X8_isSign {κ : Kx Int32} (C : Cx κ cX8_isSign RX8 2 1 (40 * 1) []) (x1 : Int32)  (h : CH) (Rr : Rt κ (some .boolean) (fun (x : Int32) (_ : Nat → Nat) => some (Value.int x)) (fun (_ : Int32) => h)) : Imp κ 0 [(0, .ref (kad κ 2)), (1, .int (x1))] [] h (f_X8_isSign x1 h) := by
  unfold f_X8_isSign
  refine r_iload_n C 1 1 rfl dX8_isSign_0 rfl ?_
  refine imp_ite (fun g_1 => ?_) (fun g_1 => ?_)
  · refine r_tsIn C 110 (nI 40) g_1 dX8_isSign_1 (by decide) (by decide) rfl (by decide) ?_
    refine r_aload_n C 111 0 rfl dX8_isSign_110 rfl ?_
    refine r_getI C 114 dX8_isSign_111 flX8_29 kt_2 rfl rfl ?_
    exact r_zretg C Rr dX8_isSign_114 (fun _ => rfl) rfl
  · refine imp_ite (fun g_2 => ?_) (fun g_2 => ?_)
    · refine r_tsIn C 110 (nI 41) g_2 dX8_isSign_1 (by decide) (by decide) rfl (by decide) ?_
      refine r_aload_n C 111 0 rfl dX8_isSign_110 rfl ?_
      refine r_getI C 114 dX8_isSign_111 flX8_29 kt_2 rfl rfl ?_
      exact r_zretg C Rr dX8_isSign_114 (fun _ => rfl) rfl
    · refine imp_ite (fun g_3 => ?_) (fun g_3 => ?_)
      · refine r_tsIn C 110 (nI 42) g_3 dX8_isSign_1 (by decide) (by decide) rfl (by decide) ?_
        refine r_aload_n C 111 0 rfl dX8_isSign_110 rfl ?_
        refine r_getI C 114 dX8_isSign_111 flX8_29 kt_2 rfl rfl ?_
        exact r_zretg C Rr dX8_isSign_114 (fun _ => rfl) rfl
      · refine imp_ite (fun g_4 => ?_) (fun g_4 => ?_)
        · refine r_tsIn C 110 (nI 43) g_4 dX8_isSign_1 (by decide) (by decide) rfl (by decide) ?_
          refine r_aload_n C 111 0 rfl dX8_isSign_110 rfl ?_
          refine r_getI C 114 dX8_isSign_111 flX8_29 kt_2 rfl rfl ?_
          exact r_zretg C Rr dX8_isSign_114 (fun _ => rfl) rfl
        · refine imp_ite (fun g_5 => ?_) (fun g_5 => ?_)
          · refine r_tsIn C 110 (nI 45) g_5 dX8_isSign_1 (by decide) (by decide) rfl (by decide) ?_
            refine r_aload_n C 111 0 rfl dX8_isSign_110 rfl ?_
            refine r_getI C 114 dX8_isSign_111 flX8_29 kt_2 rfl rfl ?_
            exact r_zretg C Rr dX8_isSign_114 (fun _ => rfl) rfl
          · refine imp_ite (fun g_6 => ?_) (fun g_6 => ?_)
            · refine r_tsIn C 108 (nI 59) g_6 dX8_isSign_1 (by decide) (by decide) rfl (by decide) ?_
              refine r_iconst C 109 (nI 1) (by decide) dX8_isSign_108 rfl ?_
              exact r_zret C Rr (by decide) dX8_isSign_109 (fun _ => rfl) rfl
            · refine imp_ite (fun g_7 => ?_) (fun g_7 => ?_)
              · refine r_tsIn C 110 (nI 60) g_7 dX8_isSign_1 (by decide) (by decide) rfl (by decide) ?_
                refine r_aload_n C 111 0 rfl dX8_isSign_110 rfl ?_
                refine r_getI C 114 dX8_isSign_111 flX8_29 kt_2 rfl rfl ?_
                exact r_zretg C Rr dX8_isSign_114 (fun _ => rfl) rfl
              · refine imp_ite (fun g_8 => ?_) (fun g_8 => ?_)
                · refine r_tsIn C 110 (nI 61) g_8 dX8_isSign_1 (by decide) (by decide) rfl (by decide) ?_
                  refine r_aload_n C 111 0 rfl dX8_isSign_110 rfl ?_
                  refine r_getI C 114 dX8_isSign_111 flX8_29 kt_2 rfl rfl ?_
                  exact r_zretg C Rr dX8_isSign_114 (fun _ => rfl) rfl
                · refine imp_ite (fun g_9 => ?_) (fun g_9 => ?_)
                  · refine r_tsIn C 110 (nI 62) g_9 dX8_isSign_1 (by decide) (by decide) rfl (by decide) ?_
                    refine r_aload_n C 111 0 rfl dX8_isSign_110 rfl ?_
                    refine r_getI C 114 dX8_isSign_111 flX8_29 kt_2 rfl rfl ?_
                    exact r_zretg C Rr dX8_isSign_114 (fun _ => rfl) rfl
                  · by_cases g_10 : (x1) = (nI 44)
                    · refine r_tsIn C 115 (nI 44) g_10 dX8_isSign_1 (by decide) (by decide) rfl (by decide) ?_
                      refine r_iconst C 116 (nI 0) (by decide) dX8_isSign_115 rfl ?_
                      exact r_zret C Rr (by decide) dX8_isSign_116 (fun _ => rfl) rfl
                    · by_cases g_11 : (x1) = (nI 46)
                      · refine r_tsIn C 115 (nI 46) g_11 dX8_isSign_1 (by decide) (by decide) rfl (by decide) ?_
                        refine r_iconst C 116 (nI 0) (by decide) dX8_isSign_115 rfl ?_
                        exact r_zret C Rr (by decide) dX8_isSign_116 (fun _ => rfl) rfl
                      · by_cases g_12 : (x1) = (nI 47)
                        · refine r_tsIn C 115 (nI 47) g_12 dX8_isSign_1 (by decide) (by decide) rfl (by decide) ?_
                          refine r_iconst C 116 (nI 0) (by decide) dX8_isSign_115 rfl ?_
                          exact r_zret C Rr (by decide) dX8_isSign_116 (fun _ => rfl) rfl
                        · by_cases g_13 : (x1) = (nI 48)
                          · refine r_tsIn C 115 (nI 48) g_13 dX8_isSign_1 (by decide) (by decide) rfl (by decide) ?_
                            refine r_iconst C 116 (nI 0) (by decide) dX8_isSign_115 rfl ?_
                            exact r_zret C Rr (by decide) dX8_isSign_116 (fun _ => rfl) rfl
                          · by_cases g_14 : (x1) = (nI 49)
                            · refine r_tsIn C 115 (nI 49) g_14 dX8_isSign_1 (by decide) (by decide) rfl (by decide) ?_
                              refine r_iconst C 116 (nI 0) (by decide) dX8_isSign_115 rfl ?_
                              exact r_zret C Rr (by decide) dX8_isSign_116 (fun _ => rfl) rfl
                            · by_cases g_15 : (x1) = (nI 50)
                              · refine r_tsIn C 115 (nI 50) g_15 dX8_isSign_1 (by decide) (by decide) rfl (by decide) ?_
                                refine r_iconst C 116 (nI 0) (by decide) dX8_isSign_115 rfl ?_
                                exact r_zret C Rr (by decide) dX8_isSign_116 (fun _ => rfl) rfl
                              · by_cases g_16 : (x1) = (nI 51)
                                · refine r_tsIn C 115 (nI 51) g_16 dX8_isSign_1 (by decide) (by decide) rfl (by decide) ?_
                                  refine r_iconst C 116 (nI 0) (by decide) dX8_isSign_115 rfl ?_
                                  exact r_zret C Rr (by decide) dX8_isSign_116 (fun _ => rfl) rfl
                                · by_cases g_17 : (x1) = (nI 52)
                                  · refine r_tsIn C 115 (nI 52) g_17 dX8_isSign_1 (by decide) (by decide) rfl (by decide) ?_
                                    refine r_iconst C 116 (nI 0) (by decide) dX8_isSign_115 rfl ?_
                                    exact r_zret C Rr (by decide) dX8_isSign_116 (fun _ => rfl) rfl
                                  · by_cases g_18 : (x1) = (nI 53)
                                    · refine r_tsIn C 115 (nI 53) g_18 dX8_isSign_1 (by decide) (by decide) rfl (by decide) ?_
                                      refine r_iconst C 116 (nI 0) (by decide) dX8_isSign_115 rfl ?_
                                      exact r_zret C Rr (by decide) dX8_isSign_116 (fun _ => rfl) rfl
                                    · by_cases g_19 : (x1) = (nI 54)
                                      · refine r_tsIn C 115 (nI 54) g_19 dX8_isSign_1 (by decide) (by decide) rfl (by decide) ?_
                                        refine r_iconst C 116 (nI 0) (by decide) dX8_isSign_115 rfl ?_
                                        exact r_zret C Rr (by decide) dX8_isSign_116 (fun _ => rfl) rfl
                                      · by_cases g_20 : (x1) = (nI 55)
                                        · refine r_tsIn C 115 (nI 55) g_20 dX8_isSign_1 (by decide) (by decide) rfl (by decide) ?_
                                          refine r_iconst C 116 (nI 0) (by decide) dX8_isSign_115 rfl ?_
                                          exact r_zret C Rr (by decide) dX8_isSign_116 (fun _ => rfl) rfl
                                        · by_cases g_21 : (x1) = (nI 56)
                                          · refine r_tsIn C 115 (nI 56) g_21 dX8_isSign_1 (by decide) (by decide) rfl (by decide) ?_
                                            refine r_iconst C 116 (nI 0) (by decide) dX8_isSign_115 rfl ?_
                                            exact r_zret C Rr (by decide) dX8_isSign_116 (fun _ => rfl) rfl
                                          · by_cases g_22 : (x1) = (nI 57)
                                            · refine r_tsIn C 115 (nI 57) g_22 dX8_isSign_1 (by decide) (by decide) rfl (by decide) ?_
                                              refine r_iconst C 116 (nI 0) (by decide) dX8_isSign_115 rfl ?_
                                              exact r_zret C Rr (by decide) dX8_isSign_116 (fun _ => rfl) rfl
                                            · by_cases g_23 : (x1) = (nI 58)
                                              · refine r_tsIn C 115 (nI 58) g_23 dX8_isSign_1 (by decide) (by decide) rfl (by decide) ?_
                                                refine r_iconst C 116 (nI 0) (by decide) dX8_isSign_115 rfl ?_
                                                exact r_zret C Rr (by decide) dX8_isSign_116 (fun _ => rfl) rfl
                                              · refine r_tsOut C 115 dX8_isSign_1 (ts_out ?_) (by decide) ?_
                                                · intro v h1 h2 e
                                                  have hv : v = 40 ∨ v = 41 ∨ v = 42 ∨ v = 43 ∨ v = 44 ∨ v = 45 ∨ v = 46 ∨ v = 47 ∨ v = 48 ∨ v = 49 ∨ v = 50 ∨ v = 51 ∨ v = 52 ∨ v = 53 ∨ v = 54 ∨ v = 55 ∨ v = 56 ∨ v = 57 ∨ v = 58 ∨ v = 59 ∨ v = 60 ∨ v = 61 ∨ v = 62 := by omega
                                                  rcases hv with rfl | rfl | rfl | rfl | rfl | rfl | rfl | rfl | rfl | rfl | rfl | rfl | rfl | rfl | rfl | rfl | rfl | rfl | rfl | rfl | rfl | rfl | rfl
                                                  · exact g_1 (e.trans (by decide))
                                                  · exact g_2 (e.trans (by decide))
                                                  · exact g_3 (e.trans (by decide))
                                                  · exact g_4 (e.trans (by decide))
                                                  · exact g_10 (e.trans (by decide))
                                                  · exact g_5 (e.trans (by decide))
                                                  · exact g_11 (e.trans (by decide))
                                                  · exact g_12 (e.trans (by decide))
                                                  · exact g_13 (e.trans (by decide))
                                                  · exact g_14 (e.trans (by decide))
                                                  · exact g_15 (e.trans (by decide))
                                                  · exact g_16 (e.trans (by decide))
                                                  · exact g_17 (e.trans (by decide))
                                                  · exact g_18 (e.trans (by decide))
                                                  · exact g_19 (e.trans (by decide))
                                                  · exact g_20 (e.trans (by decide))
                                                  · exact g_21 (e.trans (by decide))
                                                  · exact g_22 (e.trans (by decide))
                                                  · exact g_23 (e.trans (by decide))
                                                  · exact g_6 (e.trans (by decide))
                                                  · exact g_7 (e.trans (by decide))
                                                  · exact g_8 (e.trans (by decide))
                                                  · exact g_9 (e.trans (by decide))
                                                · refine r_iconst C 116 (nI 0) (by decide) dX8_isSign_115 rfl ?_
                                                  exact r_zret C Rr (by decide) dX8_isSign_116 (fun _ => rfl) rfl
set_option maxHeartbeats 4000000 in
theorem ok_f_X8_isSign (x1 : Int32)  (h : CH) : ∀ q, f_X8_isSign x1 h = some q → MG yX8_isSign cX8_isSign 2 (some .boolean) [] 1 (fun ad => [.ref (ad 2), .int x1]) h ((fun (x : Int32) (_ : Nat → Nat) => some (Value.int x)) q) ((fun (_ : Int32) => h) q) := mg_of RX8 (by decide) rfl (fun _ => Nat.le_of_ble_eq_true rfl) (fun κ C Rr => imp_f_X8_isSign C x1 h Rr)
set_option maxHeartbeats 4000000 in
set_option maxRecDepth 100000 in
theorem imp_f_X8_readNumber_L9 {κ : Kx (Int32 × CH)} (C : Cx κ cX8_readNumber RX8 4 2 (40 * 2) []) (x1 : Int32)    (Rr : Rt κ (some .int) (fun (q : Int32 × CH) (_ : Nat → Nat) => some (Value.int q.1)) (fun (q : (Int32 × CH)) => q.2)) : ∀ (n : Nat) (x2 : Int32) (x3 : Int32) (h : CH), Imp κ 9 [(0, .ref (kad κ 2)), (1, .int (x1)), (2, .int (x2)), (3, .int (x3))] [] h (f_X8_readNumber_L9 x1 n x2 x3 h) := by
  intro n
  induction n with
  | zero => intros; exact imp_none
  | succ n ih =>
    intro x2 x3 h
    rw [f_X8_readNumber_L9]
    refine r_iload_n C 10 3 rfl dX8_readNumber_9 rfl ?_
    refine r_aload_n C 11 0 rfl dX8_readNumber_10 rfl ?_
    refine r_getI C 14 dX8_readNumber_11 flX8_25 kt_2 rfl rfl ?_
    refine imp_jn (fun (j_1 : Option (Int32 × CH)) =>  Imp κ 55 [(0, .ref (kad κ 2)), (1, .int (x1)), (2, .int (x2))] [] h (j_1)) ?_ ?_
    · refine r_aload_n C 56 0 rfl dX8_readNumber_55 rfl ?_
      refine r_getR C 59 dX8_readNumber_56 flX8_22 kt_2 rfl rf_2_4 rfl ?_
      refine r_aload_n C 60 0 rfl dX8_readNumber_59 rfl ?_
      refine r_getI C 63 dX8_readNumber_60 flX8_36 kt_2 rfl rfl ?_
      refine r_iload_n C 64 2 rfl dX8_readNumber_63 rfl ?_
      refine r_i2l C 65 dX8_readNumber_64 rfl ?_
      refine r_last C 66 dX8_readNumber_65 kt_6 rfl rfl (fun h_2 => ?_)
      refine r_aload_n C 67 0 rfl dX8_readNumber_66 rfl ?_
      refine r_getI C 70 dX8_readNumber_67 flX8_33 kt_2 rfl rfl ?_
      refine r_iload_n C 71 1 rfl dX8_readNumber_70 rfl ?_
      refine r_isub C 72 dX8_readNumber_71 rfl ?_
      refine r_iconst C 73 (nI 4) (by decide) dX8_readNumber_72 rfl ?_
      refine imp_jn (fun (j_3 : Option (Int32 × CH)) =>  Imp κ 90 [] [] h_2 (j_3)) ?_ ?_
      · refine r_bipush C 92 (nI 27) (by decide) dX8_readNumber_90 rfl ?_
        refine r_goto C 97 dX8_readNumber_92 (by decide) ?_
        exact r_iret C Rr dX8_readNumber_97 (fun _ => rfl) rfl
      · intro j_3 hj_3
        refine r_icmp_gt C 76 90 dX8_readNumber_73 (by decide) rfl (fun c_4 => ?_) (fun c_4 => ?_)
        · exact imp_sub [] [] rfl (hj_3)
        · refine r_aload_n C 77 0 rfl dX8_readNumber_76 rfl ?_
          refine r_aload_n C 78 0 rfl dX8_readNumber_77 rfl ?_
          refine r_getI C 81 dX8_readNumber_78 flX8_33 kt_2 rfl rfl ?_
          refine r_cVpI C 84 [] (ok_f_X8_byteAt (h_2.1 2 7) h_2) dX8_readNumber_81 lvX8_90 kt_2 rfl rfl rfl (by decide) (Nat.le_of_ble_eq_true rfl) rfl rfl (Nat.le_of_ble_eq_true rfl) rfl rfl (fun v_5 => ?_)
          refine r_cSpI C 87 [] (ok_f_X8_isLetter v_5 h_2) dX8_readNumber_84 lsX8_101 rfl (by decide) (Nat.le_of_ble_eq_true rfl) rfl rfl (Nat.le_of_ble_eq_true rfl) rfl rfl (fun v_6 => ?_)
          refine r_if_eq C 90 95 dX8_readNumber_87 (by decide) rfl (fun c_7 => ?_) (fun c_7 => ?_)
          · refine r_bipush C 97 (nI 25) (by decide) dX8_readNumber_95 rfl ?_
            exact r_iret C Rr dX8_readNumber_97 (fun _ => rfl) rfl
          · exact imp_sub [] [] rfl (hj_3)
    · intro j_1 hj_1
      refine r_icmp_ge C 17 55 dX8_readNumber_14 (by decide) rfl (fun c_8 => ?_) (fun c_8 => ?_)
      · refine r_aload_n C 18 0 rfl dX8_readNumber_17 rfl ?_
        refine r_iload_n C 19 3 rfl dX8_readNumber_18 rfl ?_
        refine r_cVpI C 22 [] (ok_f_X8_byteAt x3 h) dX8_readNumber_19 lvX8_90 kt_2 rfl rfl rfl (by decide) (Nat.le_of_ble_eq_true rfl) rfl rfl (Nat.le_of_ble_eq_true rfl) rfl rfl (fun v_9 => ?_)
        refine r_cSpI C 25 [] (ok_f_X8_isDigit v_9 h) dX8_readNumber_22 lsX8_107 rfl (by decide) (Nat.le_of_ble_eq_true rfl) rfl rfl (Nat.le_of_ble_eq_true rfl) rfl rfl (fun v_10 => ?_)
        refine r_if_eq C 28 55 dX8_readNumber_25 (by decide) rfl (fun c_11 => ?_) (fun c_11 => ?_)
        · exact imp_sub [(0, .ref (kad κ 2)), (1, .int (x1)), (2, .int (x2))] [0, 1, 2] rfl (hj_1)
        · refine r_iload_n C 29 2 rfl dX8_readNumber_28 rfl ?_
          refine r_bipush C 31 (nI 10) (by decide) dX8_readNumber_29 rfl ?_
          refine r_imul C 32 dX8_readNumber_31 rfl ?_
          refine r_aload_n C 33 0 rfl dX8_readNumber_32 rfl ?_
          refine r_iload_n C 34 3 rfl dX8_readNumber_33 rfl ?_
          refine r_cVpI C 37 [.int ((x2) * ((nI 10)))] (ok_f_X8_byteAt x3 h) dX8_readNumber_34 lvX8_90 kt_2 rfl rfl rfl (by decide) (Nat.le_of_ble_eq_true rfl) rfl rfl (Nat.le_of_ble_eq_true rfl) rfl rfl (fun v_12 => ?_)
          refine r_bipush C 39 (nI 48) (by decide) dX8_readNumber_37 rfl ?_
          refine r_isub C 40 dX8_readNumber_39 rfl ?_
          refine r_iadd C 41 dX8_readNumber_40 rfl ?_
          refine r_istore_n C 42 2 [(2, .int (((x2) * ((nI 10))) + ((v_12) - ((nI 48))))), (0, .ref (kad κ 2)), (1, .int (x1)), (3, .int (x3))] dX8_readNumber_41 rfl (by decide) rfl rfl ?_
          refine r_aload_n C 43 1 rfl dX8_readNumber_42 rfl ?_
          refine r_iload_n C 44 3 rfl dX8_readNumber_43 rfl ?_
          refine r_iconst C 45 (nI 1) (by decide) dX8_readNumber_44 rfl ?_
          refine r_iadd C 46 dX8_readNumber_45 rfl ?_
          refine r_putI C 49 dX8_readNumber_46 flX8_33 kt_2 rfl rfl (fun h_13 => ?_)
          refine r_iinc C 52 3 (nI 1) [(3, .int (x3 + (nI 1))), (2, .int (((x2) * ((nI 10))) + ((v_12) - ((nI 48))))), (0, .ref (kad κ 2)), (1, .int (x1))] dX8_readNumber_49 rfl (by decide) (by decide) rfl rfl ?_
          refine r_goto C 9 dX8_readNumber_52 (by decide) ?_
          exact imp_sub [(0, .ref (kad κ 2)), (1, .int (x1)), (2, .int (((x2) * ((nI 10))) + ((v_12) - ((nI 48))))), (3, .int (x3 + (nI 1)))] [2, 3, 1, 0] rfl (ih (((x2) * ((nI 10))) + ((v_12) - ((nI 48)))) (x3 + (nI 1)) h_13)
      · exact imp_sub [(0, .ref (kad κ 2)), (1, .int (x1)), (2, .int (x2))] [0, 1, 2] rfl (hj_1)
set_option maxHeartbeats 4000000 in
set_option maxRecDepth 100000 in
theorem imp_f_X8_readNumber {κ : Kx (Int32 × CH)} (C : Cx κ cX8_readNumber RX8 4 2 (40 * 2) [])   (h : CH) (Rr : Rt κ (some .int) (fun (q : Int32 × CH) (_ : Nat → Nat) => some (Value.int q.1)) (fun (q : (Int32 × CH)) => q.2)) : Imp κ 0 [(0, .ref (kad κ 2))] [] h (f_X8_readNumber h) := by
  unfold f_X8_readNumber
  refine r_aload_n C 1 0 rfl dX8_readNumber_0 rfl ?_
  refine r_getI C 4 dX8_readNumber_1 flX8_33 kt_2 rfl rfl ?_
  refine r_istore_n C 5 1 [(1, .int (h.1 2 7)), (0, .ref (kad κ 2))] dX8_readNumber_4 rfl (by decide) rfl rfl ?_
  refine r_iconst C 6 (nI 0) (by decide) dX8_readNumber_5 rfl ?_
  refine r_istore_n C 7 2 [(2, .int ((nI 0))), (1, .int (h.1 2 7)), (0, .ref (kad κ 2))] dX8_readNumber_6 rfl (by decide) rfl rfl ?_
  refine r_iload_n C 8 1 rfl dX8_readNumber_7 rfl ?_
  refine r_istore_n C 9 3 [(3, .int (h.1 2 7)), (2, .int ((nI 0))), (1, .int (h.1 2 7)), (0, .ref (kad κ 2))] dX8_readNumber_8 rfl (by decide) rfl rfl ?_
  refine imp_sub [(0, .ref (kad κ 2)), (1, .int (h.1 2 7)), (2, .int ((nI 0))), (3, .int (h.1 2 7))] [3, 2, 1, 0] rfl ?_
  refine imp_f_X8_readNumber_L9 C (h.1 2 7) Rr FU ((nI 0)) (h.1 2 7) h
set_option maxHeartbeats 4000000 in
theorem ok_f_X8_readNumber   (h : CH) : ∀ q, f_X8_readNumber h = some q → MG yX8_readNumber cX8_readNumber 4 (some .int) [] 2 (fun ad => [.ref (ad 2)]) h ((fun (q : Int32 × CH) (_ : Nat → Nat) => some (Value.int q.1)) q) ((fun (q : (Int32 × CH)) => q.2) q) := mg_of RX8 (by decide) rfl (fun _ => Nat.le_of_ble_eq_true rfl) (fun κ C Rr => imp_f_X8_readNumber C  h Rr)
set_option maxHeartbeats 4000000 in
set_option maxRecDepth 100000 in
theorem imp_f_X8_withLetter {κ : Kx Int64} (C : Cx κ cX8_withLetter RX8 3 1 (40 * 1) []) (x0 : Int64) (x2 : Int32)  (h : CH) (Rr : Rt κ (some .long) (fun (x : Int64) (_ : Nat → Nat) => some (Value.long x)) (fun (_ : Int64) => h)) : Imp κ 0 [(0, .long (x0)), (2, .int (x2))] [] h (f_X8_withLetter x0 x2 h) := by
  unfold f_X8_withLetter
  refine r_lload_n C 1 0 rfl dX8_withLetter_0 rfl ?_
  refine r_ldc2 C 4 lcX8_116 dX8_withLetter_1 rfl ?_
  refine r_lmul C 5 dX8_withLetter_4 rfl ?_
  refine r_iload_n C 6 1 rfl dX8_withLetter_5 rfl ?_
  refine r_bipush C 8 (nI 97) (by decide) dX8_withLetter_6 rfl ?_
  refine r_isub C 9 dX8_withLetter_8 rfl ?_
  refine r_iconst C 10 (nI 1) (by decide) dX8_withLetter_9 rfl ?_
  refine r_iadd C 11 dX8_withLetter_10 rfl ?_
  refine r_i2l C 12 dX8_withLetter_11 rfl ?_
  refine r_ladd C 13 dX8_withLetter_12 rfl ?_
  exact r_lret C Rr dX8_withLetter_13 (fun _ => rfl) rfl
set_option maxHeartbeats 4000000 in
theorem ok_f_X8_withLetter (x0 : Int64) (x2 : Int32)  (h : CH) : ∀ q, f_X8_withLetter x0 x2 h = some q → MG yX8_withLetter cX8_withLetter 3 (some .long) [] 1 (fun ad => [.long x0, .int x2]) h ((fun (x : Int64) (_ : Nat → Nat) => some (Value.long x)) q) ((fun (_ : Int64) => h) q) := mg_of RX8 (by decide) rfl (fun _ => Nat.le_of_ble_eq_true rfl) (fun κ C Rr => imp_f_X8_withLetter C x0 x2 h Rr)
set_option maxHeartbeats 4000000 in
set_option maxRecDepth 100000 in
theorem imp_f_X8_readWord_L83 {κ : Kx (Int32 × CH)} (C : Cx κ cX8_readWord RX8 5 2 (40 * 2) []) (x2 : Int64) (h : CH)    (Rr : Rt κ (some .int) (fun (q : Int32 × CH) (_ : Nat → Nat) => some (Value.int q.1)) (fun (q : (Int32 × CH)) => q.2)) : ∀ (n : Nat) (x4 : Int32), Imp κ 83 [(0, .ref (kad κ 2)), (2, .long (x2)), (4, .int (x4))] [] h (f_X8_readWord_L83 x2 h n x4) := by
  intro n
  induction n with
  | zero => intros; exact imp_none
  | succ n ih =>
    intro x4
    rw [f_X8_readWord_L83]
    refine r_iload C 85 2 rfl dX8_readWord_83 rfl ?_
    refine r_bipush C 87 (nI 24) (by decide) dX8_readWord_85 rfl ?_
    refine r_icmp_ge C 90 111 dX8_readWord_87 (by decide) rfl (fun c_4 => ?_) (fun c_4 => ?_)
    · refine r_aload_n C 91 0 rfl dX8_readWord_90 rfl ?_
      refine r_getR C 94 dX8_readWord_91 flX8_11 kt_2 rfl rf_2_1 rfl ?_
      refine r_iload C 96 2 rfl dX8_readWord_94 rfl ?_
      refine r_lald C 97 dX8_readWord_96 kt_3 rfl rfl (fun v_5 => ?_)
      refine r_lload_n C 98 1 rfl dX8_readWord_97 rfl ?_
      refine r_lcmp C 99 dX8_readWord_98 rfl ?_
      refine r_if_ne C 102 105 dX8_readWord_99 (by decide) rfl (fun c_6 => ?_) (fun c_6 => ?_)
      · refine r_iload C 104 2 rfl dX8_readWord_102 rfl ?_
        exact r_iret C Rr dX8_readWord_104 (fun _ => rfl) rfl
      · refine r_iinc C 108 2 (nI 1) [(4, .int (x4 + (nI 1))), (0, .ref (kad κ 2)), (2, .long (x2))] dX8_readWord_105 rfl (by decide) (by decide) rfl rfl ?_
        refine r_goto C 83 dX8_readWord_108 (by decide) ?_
        exact imp_sub [(0, .ref (kad κ 2)), (2, .long (x2)), (4, .int (x4 + (nI 1)))] [1, 2, 0] rfl (ih (x4 + (nI 1)))
    · refine r_bipush C 113 (nI 24) (by decide) dX8_readWord_111 rfl ?_
      exact r_iret C Rr dX8_readWord_113 (fun _ => rfl) rfl
set_option maxHeartbeats 4000000 in
set_option maxRecDepth 100000 in
theorem imp_f_X8_readWord_L10 {κ : Kx (Int32 × CH)} (C : Cx κ cX8_readWord RX8 5 2 (40 * 2) []) (x1 : Int32)    (Rr : Rt κ (some .int) (fun (q : Int32 × CH) (_ : Nat → Nat) => some (Value.int q.1)) (fun (q : (Int32 × CH)) => q.2)) : ∀ (n : Nat) (x2 : Int64) (x4 : Int32) (h : CH), Imp κ 10 [(0, .ref (kad κ 2)), (1, .int (x1)), (2, .long (x2)), (4, .int (x4))] [] h (f_X8_readWord_L10 x1 n x2 x4 h) := by
  intro n
  induction n with
  | zero => intros; exact imp_none
  | succ n ih =>
    intro x2 x4 h
    rw [f_X8_readWord_L10]
    refine r_iload C 12 3 rfl dX8_readWord_10 rfl ?_
    refine r_aload_n C 13 0 rfl dX8_readWord_12 rfl ?_
    refine r_getI C 16 dX8_readWord_13 flX8_25 kt_2 rfl rfl ?_
    refine imp_jn (fun (j_1 : Option (Int32 × CH)) =>  Imp κ 56 [(0, .ref (kad κ 2)), (1, .int (x1)), (2, .long (x2))] [] h (j_1)) ?_ ?_
    · refine r_aload_n C 57 0 rfl dX8_readWord_56 rfl ?_
      refine r_getI C 60 dX8_readWord_57 flX8_33 kt_2 rfl rfl ?_
      refine r_iload_n C 61 1 rfl dX8_readWord_60 rfl ?_
      refine r_isub C 62 dX8_readWord_61 rfl ?_
      refine r_bipush C 64 (nI 8) (by decide) dX8_readWord_62 rfl ?_
      refine r_icmp_le C 67 70 dX8_readWord_64 (by decide) rfl (fun c_2 => ?_) (fun c_2 => ?_)
      · refine r_bipush C 69 (nI 27) (by decide) dX8_readWord_67 rfl ?_
        exact r_iret C Rr dX8_readWord_69 (fun _ => rfl) rfl
      · refine r_aload_n C 71 0 rfl dX8_readWord_70 rfl ?_
        refine r_getR C 74 dX8_readWord_71 flX8_22 kt_2 rfl rf_2_4 rfl ?_
        refine r_aload_n C 75 0 rfl dX8_readWord_74 rfl ?_
        refine r_getI C 78 dX8_readWord_75 flX8_36 kt_2 rfl rfl ?_
        refine r_lload_n C 79 2 rfl dX8_readWord_78 rfl ?_
        refine r_last C 80 dX8_readWord_79 kt_6 rfl rfl (fun h_3 => ?_)
        refine r_iconst C 81 (nI 0) (by decide) dX8_readWord_80 rfl ?_
        refine r_istore C 83 [(4, .int ((nI 0))), (0, .ref (kad κ 2)), (1, .int (x1)), (2, .long (x2))] dX8_readWord_81 (by decide) rfl rfl ?_
        refine imp_sub [(0, .ref (kad κ 2)), (2, .long (x2)), (4, .int ((nI 0)))] [1, 3, 0] rfl ?_
        refine imp_f_X8_readWord_L83 C (x2) h_3 Rr FU ((nI 0))
    · intro j_1 hj_1
      refine r_icmp_ge C 19 56 dX8_readWord_16 (by decide) rfl (fun c_7 => ?_) (fun c_7 => ?_)
      · refine r_aload_n C 20 0 rfl dX8_readWord_19 rfl ?_
        refine r_iload C 22 3 rfl dX8_readWord_20 rfl ?_
        refine r_cVpI C 25 [] (ok_f_X8_byteAt x4 h) dX8_readWord_22 lvX8_90 kt_2 rfl rfl rfl (by decide) (Nat.le_of_ble_eq_true rfl) rfl rfl (Nat.le_of_ble_eq_true rfl) rfl rfl (fun v_8 => ?_)
        refine r_cSpI C 28 [] (ok_f_X8_isLetter v_8 h) dX8_readWord_25 lsX8_101 rfl (by decide) (Nat.le_of_ble_eq_true rfl) rfl rfl (Nat.le_of_ble_eq_true rfl) rfl rfl (fun v_9 => ?_)
        refine r_if_eq C 31 56 dX8_readWord_28 (by decide) rfl (fun c_10 => ?_) (fun c_10 => ?_)
        · exact imp_sub [(0, .ref (kad κ 2)), (1, .int (x1)), (2, .long (x2))] [0, 1, 2] rfl (hj_1)
        · refine r_lload_n C 32 2 rfl dX8_readWord_31 rfl ?_
          refine r_aload_n C 33 0 rfl dX8_readWord_32 rfl ?_
          refine r_iload C 35 3 rfl dX8_readWord_33 rfl ?_
          refine r_cVpI C 38 [.long (x2)] (ok_f_X8_byteAt x4 h) dX8_readWord_35 lvX8_90 kt_2 rfl rfl rfl (by decide) (Nat.le_of_ble_eq_true rfl) rfl rfl (Nat.le_of_ble_eq_true rfl) rfl rfl (fun v_11 => ?_)
          refine r_cSpJ C 41 [] (ok_f_X8_withLetter x2 v_11 h) dX8_readWord_38 lsX8_73 rfl (by decide) (Nat.le_of_ble_eq_true rfl) rfl rfl (Nat.le_of_ble_eq_true rfl) rfl rfl (fun v_12 => ?_)
          refine r_lstore_n C 42 2 [(2, .long (v_12)), (0, .ref (kad κ 2)), (1, .int (x1)), (4, .int (x4))] dX8_readWord_41 rfl (by decide) rfl rfl ?_
          refine r_aload_n C 43 1 rfl dX8_readWord_42 rfl ?_
          refine r_iload C 45 3 rfl dX8_readWord_43 rfl ?_
          refine r_iconst C 46 (nI 1) (by decide) dX8_readWord_45 rfl ?_
          refine r_iadd C 47 dX8_readWord_46 rfl ?_
          refine r_putI C 50 dX8_readWord_47 flX8_33 kt_2 rfl rfl (fun h_13 => ?_)
          refine r_iinc C 53 3 (nI 1) [(4, .int (x4 + (nI 1))), (2, .long (v_12)), (0, .ref (kad κ 2)), (1, .int (x1))] dX8_readWord_50 rfl (by decide) (by decide) rfl rfl ?_
          refine r_goto C 10 dX8_readWord_53 (by decide) ?_
          exact imp_sub [(0, .ref (kad κ 2)), (1, .int (x1)), (2, .long (v_12)), (4, .int (x4 + (nI 1)))] [2, 3, 1, 0] rfl (ih (v_12) (x4 + (nI 1)) h_13)
      · exact imp_sub [(0, .ref (kad κ 2)), (1, .int (x1)), (2, .long (x2))] [0, 1, 2] rfl (hj_1)
set_option maxHeartbeats 4000000 in
set_option maxRecDepth 100000 in
theorem imp_f_X8_readWord {κ : Kx (Int32 × CH)} (C : Cx κ cX8_readWord RX8 5 2 (40 * 2) [])   (h : CH) (Rr : Rt κ (some .int) (fun (q : Int32 × CH) (_ : Nat → Nat) => some (Value.int q.1)) (fun (q : (Int32 × CH)) => q.2)) : Imp κ 0 [(0, .ref (kad κ 2))] [] h (f_X8_readWord h) := by
  unfold f_X8_readWord
  refine r_aload_n C 1 0 rfl dX8_readWord_0 rfl ?_
  refine r_getI C 4 dX8_readWord_1 flX8_33 kt_2 rfl rfl ?_
  refine r_istore_n C 5 1 [(1, .int (h.1 2 7)), (0, .ref (kad κ 2))] dX8_readWord_4 rfl (by decide) rfl rfl ?_
  refine r_lconst C 6 0 (by decide) dX8_readWord_5 rfl ?_
  refine r_lstore_n C 7 2 [(2, .long (0)), (1, .int (h.1 2 7)), (0, .ref (kad κ 2))] dX8_readWord_6 rfl (by decide) rfl rfl ?_
  refine r_iload_n C 8 1 rfl dX8_readWord_7 rfl ?_
  refine r_istore C 10 [(4, .int (h.1 2 7)), (2, .long (0)), (1, .int (h.1 2 7)), (0, .ref (kad κ 2))] dX8_readWord_8 (by decide) rfl rfl ?_
  refine imp_sub [(0, .ref (kad κ 2)), (1, .int (h.1 2 7)), (2, .long (0)), (4, .int (h.1 2 7))] [3, 2, 1, 0] rfl ?_
  refine imp_f_X8_readWord_L10 C (h.1 2 7) Rr FU (0) (h.1 2 7) h
set_option maxHeartbeats 4000000 in
theorem ok_f_X8_readWord   (h : CH) : ∀ q, f_X8_readWord h = some q → MG yX8_readWord cX8_readWord 5 (some .int) [] 2 (fun ad => [.ref (ad 2)]) h ((fun (q : Int32 × CH) (_ : Nat → Nat) => some (Value.int q.1)) q) ((fun (q : (Int32 × CH)) => q.2) q) := mg_of RX8 (by decide) rfl (fun _ => Nat.le_of_ble_eq_true rfl) (fun κ C Rr => imp_f_X8_readWord C  h Rr)
set_option maxHeartbeats 4000000 in
set_option maxRecDepth 100000 in
theorem imp_f_X8_readKind {κ : Kx (Int32 × CH)} (C : Cx κ cX8_readKind RX8 2 3 (40 * 3) []) (x1 : Int32)  (h : CH) (Rr : Rt κ (some .int) (fun (q : Int32 × CH) (_ : Nat → Nat) => some (Value.int q.1)) (fun (q : (Int32 × CH)) => q.2)) : Imp κ 0 [(0, .ref (kad κ 2)), (1, .int (x1))] [] h (f_X8_readKind x1 h) := by
  unfold f_X8_readKind
  refine r_aload_n C 1 0 rfl dX8_readKind_0 rfl ?_
  refine r_getI C 4 dX8_readKind_1 flX8_33 kt_2 rfl rfl ?_
  refine r_aload_n C 5 0 rfl dX8_readKind_4 rfl ?_
  refine r_getI C 8 dX8_readKind_5 flX8_25 kt_2 rfl rfl ?_
  refine r_icmp_lt C 11 14 dX8_readKind_8 (by decide) rfl (fun c_1 => ?_) (fun c_1 => ?_)
  · refine r_iload_n C 15 1 rfl dX8_readKind_14 rfl ?_
    refine r_cSpI C 18 [] (ok_f_X8_isLetter x1 h) dX8_readKind_15 lsX8_101 rfl (by decide) (Nat.le_of_ble_eq_true rfl) rfl rfl (Nat.le_of_ble_eq_true rfl) rfl rfl (fun v_2 => ?_)
    refine r_if_eq C 21 26 dX8_readKind_18 (by decide) rfl (fun c_3 => ?_) (fun c_3 => ?_)
    · refine r_iload_n C 27 1 rfl dX8_readKind_26 rfl ?_
      refine r_cSpI C 30 [] (ok_f_X8_isDigit x1 h) dX8_readKind_27 lsX8_107 rfl (by decide) (Nat.le_of_ble_eq_true rfl) rfl rfl (Nat.le_of_ble_eq_true rfl) rfl rfl (fun v_4 => ?_)
      refine r_if_eq C 33 38 dX8_readKind_30 (by decide) rfl (fun c_5 => ?_) (fun c_5 => ?_)
      · refine r_aload_n C 39 0 rfl dX8_readKind_38 rfl ?_
        refine r_dup C 40 rfl dX8_readKind_39 rfl ?_
        refine r_getI C 43 dX8_readKind_40 flX8_33 kt_2 rfl rfl ?_
        refine r_iconst C 44 (nI 1) (by decide) dX8_readKind_43 rfl ?_
        refine r_iadd C 45 dX8_readKind_44 rfl ?_
        refine r_putI C 48 dX8_readKind_45 flX8_33 kt_2 rfl rfl (fun h_6 => ?_)
        refine r_aload_n C 49 0 rfl dX8_readKind_48 rfl ?_
        refine r_iload_n C 50 1 rfl dX8_readKind_49 rfl ?_
        refine r_cVpI C 53 [] (ok_f_X8_isSign x1 h_6) dX8_readKind_50 lvX8_113 kt_2 rfl rfl rfl (by decide) (Nat.le_of_ble_eq_true rfl) rfl rfl (Nat.le_of_ble_eq_true rfl) rfl rfl (fun v_7 => ?_)
        refine r_if_eq C 56 60 dX8_readKind_53 (by decide) rfl (fun c_8 => ?_) (fun c_8 => ?_)
        · refine r_bipush C 62 (nI 27) (by decide) dX8_readKind_60 rfl ?_
          exact r_iret C Rr dX8_readKind_62 (fun _ => rfl) rfl
        · refine r_iload_n C 57 1 rfl dX8_readKind_56 rfl ?_
          refine r_goto C 62 dX8_readKind_57 (by decide) ?_
          exact r_iret C Rr dX8_readKind_62 (fun _ => rfl) rfl
      · refine r_aload_n C 34 0 rfl dX8_readKind_33 rfl ?_
        refine r_cViI C 37 [] (ok_f_X8_readNumber h) dX8_readKind_34 lvX8_110 kt_2 rfl rfl rfl (by decide) (Nat.le_of_ble_eq_true rfl) rfl rfl (Nat.le_of_ble_eq_true rfl) rfl rfl (fun v_9 h_10 => ?_)
        exact r_iret C Rr dX8_readKind_37 (fun _ => rfl) rfl
    · refine r_aload_n C 22 0 rfl dX8_readKind_21 rfl ?_
      refine r_cViI C 25 [] (ok_f_X8_readWord h) dX8_readKind_22 lvX8_104 kt_2 rfl rfl rfl (by decide) (Nat.le_of_ble_eq_true rfl) rfl rfl (Nat.le_of_ble_eq_true rfl) rfl rfl (fun v_11 h_12 => ?_)
      exact r_iret C Rr dX8_readKind_25 (fun _ => rfl) rfl
  · refine r_bipush C 13 (nI 26) (by decide) dX8_readKind_11 rfl ?_
    exact r_iret C Rr dX8_readKind_13 (fun _ => rfl) rfl
set_option maxHeartbeats 4000000 in
theorem ok_f_X8_readKind (x1 : Int32)  (h : CH) : ∀ q, f_X8_readKind x1 h = some q → MG yX8_readKind cX8_readKind 2 (some .int) [] 3 (fun ad => [.ref (ad 2), .int x1]) h ((fun (q : Int32 × CH) (_ : Nat → Nat) => some (Value.int q.1)) q) ((fun (q : (Int32 × CH)) => q.2) q) := mg_of RX8 (by decide) rfl (fun _ => Nat.le_of_ble_eq_true rfl) (fun κ C Rr => imp_f_X8_readKind C x1 h Rr)
set_option maxHeartbeats 4000000 in
set_option maxRecDepth 100000 in
theorem imp_f_X8_isBlank {κ : Kx Int32} (C : Cx κ cX8_isBlank RX8 1 1 (40 * 1) []) (x0 : Int32)  (h : CH) (Rr : Rt κ (some .boolean) (fun (x : Int32) (_ : Nat → Nat) => some (Value.int x)) (fun (_ : Int32) => h)) : Imp κ 0 [(0, .int (x0))] [] h (f_X8_isBlank x0 h) := by
  unfold f_X8_isBlank
  refine r_iload_n C 1 0 rfl dX8_isBlank_0 rfl ?_
  refine r_bipush C 3 (nI 32) (by decide) dX8_isBlank_1 rfl ?_
  refine imp_jn (fun (j_1 : Option Int32) =>  Imp κ 12 [] [] h (j_1)) ?_ ?_
  · refine r_iconst C 13 (nI 1) (by decide) dX8_isBlank_12 rfl ?_
    refine r_goto C 17 dX8_isBlank_13 (by decide) ?_
    exact r_zret C Rr (by decide) dX8_isBlank_17 (fun _ => rfl) rfl
  · intro j_1 hj_1
    refine r_icmp_eq C 6 12 dX8_isBlank_3 (by decide) rfl (fun c_2 => ?_) (fun c_2 => ?_)
    · exact imp_sub [] [] rfl (hj_1)
    · refine r_iload_n C 7 0 rfl dX8_isBlank_6 rfl ?_
      refine r_bipush C 9 (nI 10) (by decide) dX8_isBlank_7 rfl ?_
      refine r_icmp_ne C 12 16 dX8_isBlank_9 (by decide) rfl (fun c_3 => ?_) (fun c_3 => ?_)
      · exact imp_sub [] [] rfl (hj_1)
      · refine r_iconst C 17 (nI 0) (by decide) dX8_isBlank_16 rfl ?_
        exact r_zret C Rr (by decide) dX8_isBlank_17 (fun _ => rfl) rfl
set_option maxHeartbeats 4000000 in
theorem ok_f_X8_isBlank (x0 : Int32)  (h : CH) : ∀ q, f_X8_isBlank x0 h = some q → MG yX8_isBlank cX8_isBlank 1 (some .boolean) [] 1 (fun ad => [.int x0]) h ((fun (x : Int32) (_ : Nat → Nat) => some (Value.int x)) q) ((fun (_ : Int32) => h) q) := mg_of RX8 (by decide) rfl (fun _ => Nat.le_of_ble_eq_true rfl) (fun κ C Rr => imp_f_X8_isBlank C x0 h Rr)
set_option maxHeartbeats 4000000 in
set_option maxRecDepth 100000 in
theorem imp_f_X8_readToken_L5 {κ : Kx (Int32 × CH)} (C : Cx κ cX8_readToken RX8 2 4 (40 * 4) [])     (Rr : Rt κ (some .boolean) (fun (q : Int32 × CH) (_ : Nat → Nat) => some (Value.int q.1)) (fun (q : (Int32 × CH)) => q.2)) : ∀ (n : Nat) (x1 : Int32) (h : CH), Imp κ 5 [(0, .ref (kad κ 2)), (1, .int (x1))] [] h (f_X8_readToken_L5 n x1 h) := by
  intro n
  induction n with
  | zero => intros; exact imp_none
  | succ n ih =>
    intro x1 h
    rw [f_X8_readToken_L5]
    refine r_iload_n C 6 1 rfl dX8_readToken_5 rfl ?_
    refine r_aload_n C 7 0 rfl dX8_readToken_6 rfl ?_
    refine r_getI C 10 dX8_readToken_7 flX8_25 kt_2 rfl rfl ?_
    refine imp_jn (fun (j_1 : Option (Int32 × CH)) =>  Imp κ 37 [(0, .ref (kad κ 2))] [] h (j_1)) ?_ ?_
    · refine r_aload_n C 38 0 rfl dX8_readToken_37 rfl ?_
      refine r_getI C 41 dX8_readToken_38 flX8_36 kt_2 rfl rfl ?_
      refine r_sipush C 44 (nI 1601) (by decide) dX8_readToken_41 rfl ?_
      refine r_icmp_lt C 47 49 dX8_readToken_44 (by decide) rfl (fun c_2 => ?_) (fun c_2 => ?_)
      · refine r_aload_n C 50 0 rfl dX8_readToken_49 rfl ?_
        refine r_getR C 53 dX8_readToken_50 flX8_19 kt_2 rfl rf_2_3 rfl ?_
        refine r_aload_n C 54 0 rfl dX8_readToken_53 rfl ?_
        refine r_getI C 57 dX8_readToken_54 flX8_36 kt_2 rfl rfl ?_
        refine r_aload_n C 58 0 rfl dX8_readToken_57 rfl ?_
        refine r_getI C 61 dX8_readToken_58 flX8_33 kt_2 rfl rfl ?_
        refine r_iast C 62 dX8_readToken_61 kt_5 rfl rfl (fun h_3 => ?_)
        refine r_aload_n C 63 0 rfl dX8_readToken_62 rfl ?_
        refine r_getR C 66 dX8_readToken_63 flX8_22 kt_2 rfl rf_2_4 rfl ?_
        refine r_aload_n C 67 0 rfl dX8_readToken_66 rfl ?_
        refine r_getI C 70 dX8_readToken_67 flX8_36 kt_2 rfl rfl ?_
        refine r_lconst C 71 0 (by decide) dX8_readToken_70 rfl ?_
        refine r_last C 72 dX8_readToken_71 kt_6 rfl rfl (fun h_4 => ?_)
        refine r_aload_n C 73 0 rfl dX8_readToken_72 rfl ?_
        refine r_aload_n C 74 0 rfl dX8_readToken_73 rfl ?_
        refine r_aload_n C 75 0 rfl dX8_readToken_74 rfl ?_
        refine r_getI C 78 dX8_readToken_75 flX8_33 kt_2 rfl rfl ?_
        refine r_cVpI C 81 [.ref (kad κ 2)] (ok_f_X8_byteAt (h_4.1 2 7) h_4) dX8_readToken_78 lvX8_90 kt_2 rfl rfl rfl (by decide) (Nat.le_of_ble_eq_true rfl) rfl rfl (Nat.le_of_ble_eq_true rfl) rfl rfl (fun v_5 => ?_)
        refine r_cViI C 84 [] (ok_f_X8_readKind v_5 h_4) dX8_readToken_81 lvX8_98 kt_2 rfl rfl rfl (by decide) (Nat.le_of_ble_eq_true rfl) rfl rfl (Nat.le_of_ble_eq_true rfl) rfl rfl (fun v_6 h_7 => ?_)
        refine r_istore_n C 85 1 [(1, .int (v_6)), (0, .ref (kad κ 2))] dX8_readToken_84 rfl (by decide) rfl rfl ?_
        refine r_aload_n C 86 1 rfl dX8_readToken_85 rfl ?_
        refine r_getR C 89 dX8_readToken_86 flX8_15 kt_2 rfl rf_2_2 rfl ?_
        refine r_aload_n C 90 1 rfl dX8_readToken_89 rfl ?_
        refine r_getI C 93 dX8_readToken_90 flX8_36 kt_2 rfl rfl ?_
        refine r_iload_n C 94 0 rfl dX8_readToken_93 rfl ?_
        refine r_iast C 95 dX8_readToken_94 kt_4 rfl rfl (fun h_8 => ?_)
        refine r_aload_n C 96 1 rfl dX8_readToken_95 rfl ?_
        refine r_dup C 97 rfl dX8_readToken_96 rfl ?_
        refine r_getI C 100 dX8_readToken_97 flX8_36 kt_2 rfl rfl ?_
        refine r_iconst C 101 (nI 1) (by decide) dX8_readToken_100 rfl ?_
        refine r_iadd C 102 dX8_readToken_101 rfl ?_
        refine r_putI C 105 dX8_readToken_102 flX8_36 kt_2 rfl rfl (fun h_9 => ?_)
        refine r_iload_n C 106 0 rfl dX8_readToken_105 rfl ?_
        refine r_bipush C 108 (nI 26) (by decide) dX8_readToken_106 rfl ?_
        refine r_icmp_eq C 111 121 dX8_readToken_108 (by decide) rfl (fun c_10 => ?_) (fun c_10 => ?_)
        · refine r_iconst C 122 (nI 0) (by decide) dX8_readToken_121 rfl ?_
          exact r_zret C Rr (by decide) dX8_readToken_122 (fun _ => rfl) rfl
        · refine r_iload_n C 112 0 rfl dX8_readToken_111 rfl ?_
          refine r_bipush C 114 (nI 27) (by decide) dX8_readToken_112 rfl ?_
          refine r_icmp_eq C 117 121 dX8_readToken_114 (by decide) rfl (fun c_11 => ?_) (fun c_11 => ?_)
          · refine r_iconst C 122 (nI 0) (by decide) dX8_readToken_121 rfl ?_
            exact r_zret C Rr (by decide) dX8_readToken_122 (fun _ => rfl) rfl
          · refine r_iconst C 118 (nI 1) (by decide) dX8_readToken_117 rfl ?_
            refine r_goto C 122 dX8_readToken_118 (by decide) ?_
            exact r_zret C Rr (by decide) dX8_readToken_122 (fun _ => rfl) rfl
      · refine r_iconst C 48 (nI 0) (by decide) dX8_readToken_47 rfl ?_
        exact r_zret C Rr (by decide) dX8_readToken_48 (fun _ => rfl) rfl
    · intro j_1 hj_1
      refine r_icmp_ge C 13 37 dX8_readToken_10 (by decide) rfl (fun c_12 => ?_) (fun c_12 => ?_)
      · refine r_aload_n C 14 0 rfl dX8_readToken_13 rfl ?_
        refine r_iload_n C 15 1 rfl dX8_readToken_14 rfl ?_
        refine r_cVpI C 18 [] (ok_f_X8_byteAt x1 h) dX8_readToken_15 lvX8_90 kt_2 rfl rfl rfl (by decide) (Nat.le_of_ble_eq_true rfl) rfl rfl (Nat.le_of_ble_eq_true rfl) rfl rfl (fun v_13 => ?_)
        refine r_cSpI C 21 [] (ok_f_X8_isBlank v_13 h) dX8_readToken_18 lsX8_94 rfl (by decide) (Nat.le_of_ble_eq_true rfl) rfl rfl (Nat.le_of_ble_eq_true rfl) rfl rfl (fun v_14 => ?_)
        refine r_if_eq C 24 37 dX8_readToken_21 (by decide) rfl (fun c_15 => ?_) (fun c_15 => ?_)
        · exact imp_sub [(0, .ref (kad κ 2))] [0] rfl (hj_1)
        · refine r_aload_n C 25 0 rfl dX8_readToken_24 rfl ?_
          refine r_iload_n C 26 1 rfl dX8_readToken_25 rfl ?_
          refine r_iconst C 27 (nI 1) (by decide) dX8_readToken_26 rfl ?_
          refine r_iadd C 28 dX8_readToken_27 rfl ?_
          refine r_putI C 31 dX8_readToken_28 flX8_33 kt_2 rfl rfl (fun h_16 => ?_)
          refine r_iinc C 34 1 (nI 1) [(1, .int (x1 + (nI 1))), (0, .ref (kad κ 2))] dX8_readToken_31 rfl (by decide) (by decide) rfl rfl ?_
          refine r_goto C 5 dX8_readToken_34 (by decide) ?_
          exact imp_sub [(0, .ref (kad κ 2)), (1, .int (x1 + (nI 1)))] [1, 0] rfl (ih (x1 + (nI 1)) h_16)
      · exact imp_sub [(0, .ref (kad κ 2))] [0] rfl (hj_1)
set_option maxHeartbeats 4000000 in
set_option maxRecDepth 100000 in
theorem imp_f_X8_readToken {κ : Kx (Int32 × CH)} (C : Cx κ cX8_readToken RX8 2 4 (40 * 4) [])   (h : CH) (Rr : Rt κ (some .boolean) (fun (q : Int32 × CH) (_ : Nat → Nat) => some (Value.int q.1)) (fun (q : (Int32 × CH)) => q.2)) : Imp κ 0 [(0, .ref (kad κ 2))] [] h (f_X8_readToken h) := by
  unfold f_X8_readToken
  refine r_aload_n C 1 0 rfl dX8_readToken_0 rfl ?_
  refine r_getI C 4 dX8_readToken_1 flX8_33 kt_2 rfl rfl ?_
  refine r_istore_n C 5 1 [(1, .int (h.1 2 7)), (0, .ref (kad κ 2))] dX8_readToken_4 rfl (by decide) rfl rfl ?_
  refine imp_sub [(0, .ref (kad κ 2)), (1, .int (h.1 2 7))] [1, 0] rfl ?_
  refine imp_f_X8_readToken_L5 C Rr FU (h.1 2 7) h
set_option maxHeartbeats 4000000 in
theorem ok_f_X8_readToken   (h : CH) : ∀ q, f_X8_readToken h = some q → MG yX8_readToken cX8_readToken 2 (some .boolean) [] 4 (fun ad => [.ref (ad 2)]) h ((fun (q : Int32 × CH) (_ : Nat → Nat) => some (Value.int q.1)) q) ((fun (q : (Int32 × CH)) => q.2) q) := mg_of RX8 (by decide) rfl (fun _ => Nat.le_of_ble_eq_true rfl) (fun κ C Rr => imp_f_X8_readToken C  h Rr)
set_option maxHeartbeats 4000000 in
set_option maxRecDepth 100000 in
theorem imp_f_X8_open_L43 {κ : Kx (Unit × CH)} (C : Cx κ cX8_open RX8 5 5 (40 * 5) [])     (Rr : Rt κ none (fun (_ : Unit × CH) (_ : Nat → Nat) => (none : Option Value)) (fun (q : (Unit × CH)) => q.2)) : ∀ (n : Nat) (x3 : Int32) (x4 : Int32) (h : CH), Imp κ 43 [(0, .ref (kad κ 2)), (3, .int (x3)), (4, .int (x4))] [] h (f_X8_open_L43 n x3 x4 h) := by
  intro n
  induction n with
  | zero => intros; exact imp_none
  | succ n ih =>
    intro x3 x4 h
    rw [f_X8_open_L43]
    refine r_iload C 45 2 rfl dX8_open_43 rfl ?_
    refine r_sipush C 48 (nI 1601) (by decide) dX8_open_45 rfl ?_
    refine imp_jn (fun (j_7 : Option (Unit × CH)) =>  Imp κ 66 [(0, .ref (kad κ 2))] [] h (j_7)) ?_ ?_
    · refine r_aload_n C 67 0 rfl dX8_open_66 rfl ?_
      refine r_iconst C 68 (-1) (by decide) dX8_open_67 rfl ?_
      refine r_putI C 71 dX8_open_68 flX8_39 kt_2 rfl rfl (fun h_8 => ?_)
      refine r_aload_n C 72 0 rfl dX8_open_71 rfl ?_
      refine r_cViV C 75 [] (ok_f_X8_step h_8) dX8_open_72 lvX8_87 kt_2 rfl rfl rfl (by decide) (Nat.le_of_ble_eq_true rfl) rfl rfl (Nat.le_of_ble_eq_true rfl) rfl rfl (fun _ h_9 => ?_)
      exact r_vret C Rr dX8_open_75 (fun _ => rfl) rfl
    · intro j_7 hj_7
      refine r_icmp_ge C 51 66 dX8_open_48 (by decide) rfl (fun c_10 => ?_) (fun c_10 => ?_)
      · refine r_iload_n C 52 1 rfl dX8_open_51 rfl ?_
        refine r_if_eq C 55 66 dX8_open_52 (by decide) rfl (fun c_11 => ?_) (fun c_11 => ?_)
        · exact imp_sub [(0, .ref (kad κ 2))] [0] rfl (hj_7)
        · refine r_aload_n C 56 0 rfl dX8_open_55 rfl ?_
          refine r_cViI C 59 [] (ok_f_X8_readToken h) dX8_open_56 lvX8_83 kt_2 rfl rfl rfl (by decide) (Nat.le_of_ble_eq_true rfl) rfl rfl (Nat.le_of_ble_eq_true rfl) rfl rfl (fun v_12 h_13 => ?_)
          refine r_istore_n C 60 3 [(3, .int (v_12)), (0, .ref (kad κ 2)), (4, .int (x4))] dX8_open_59 rfl (by decide) rfl rfl ?_
          refine r_iinc C 63 2 (nI 1) [(4, .int (x4 + (nI 1))), (3, .int (v_12)), (0, .ref (kad κ 2))] dX8_open_60 rfl (by decide) (by decide) rfl rfl ?_
          refine r_goto C 43 dX8_open_63 (by decide) ?_
          exact imp_sub [(0, .ref (kad κ 2)), (3, .int (v_12)), (4, .int (x4 + (nI 1)))] [2, 1, 0] rfl (ih (v_12) (x4 + (nI 1)) h_13)
      · exact imp_sub [(0, .ref (kad κ 2))] [0] rfl (hj_7)
set_option maxHeartbeats 4000000 in
set_option maxRecDepth 100000 in
theorem imp_f_X8_open {κ : Kx (Unit × CH)} (C : Cx κ cX8_open RX8 5 5 (40 * 5) []) (x1 : Int32) (x2 : Int32)  (h : CH) (Rr : Rt κ none (fun (_ : Unit × CH) (_ : Nat → Nat) => (none : Option Value)) (fun (q : (Unit × CH)) => q.2)) : Imp κ 0 [(0, .ref (kad κ 2)), (1, .int (x1)), (2, .int (x2))] [] h (f_X8_open x1 x2 h) := by
  unfold f_X8_open
  refine r_aload_n C 1 0 rfl dX8_open_0 rfl ?_
  refine r_iload_n C 2 1 rfl dX8_open_1 rfl ?_
  refine r_aload_n C 3 0 rfl dX8_open_2 rfl ?_
  refine r_getR C 6 dX8_open_3 flX8_58 kt_2 rfl rf_2_0 rfl ?_
  refine r_alenB C 7 (nI 1600) dX8_open_6 kt_1 rfl (by decide) rfl ?_
  refine r_mmin C 10 dX8_open_7 lmX8_77 (Nat.le_of_ble_eq_true rfl) (by decide) rfl ?_
  refine r_putI C 13 dX8_open_10 flX8_25 kt_2 rfl rfl (fun h_1 => ?_)
  refine r_aload_n C 14 0 rfl dX8_open_13 rfl ?_
  refine r_iload_n C 15 2 rfl dX8_open_14 rfl ?_
  refine r_putZ C 18 dX8_open_15 flX8_29 kt_2 rfl rfl (fun h_2 => ?_)
  refine r_aload_n C 19 0 rfl dX8_open_18 rfl ?_
  refine r_iconst C 20 (nI 0) (by decide) dX8_open_19 rfl ?_
  refine r_putI C 23 dX8_open_20 flX8_52 kt_2 rfl rfl (fun h_3 => ?_)
  refine r_aload_n C 24 0 rfl dX8_open_23 rfl ?_
  refine r_iconst C 25 (-1) (by decide) dX8_open_24 rfl ?_
  refine r_putI C 28 dX8_open_25 flX8_55 kt_2 rfl rfl (fun h_4 => ?_)
  refine r_aload_n C 29 0 rfl dX8_open_28 rfl ?_
  refine r_iconst C 30 (nI 0) (by decide) dX8_open_29 rfl ?_
  refine r_putI C 33 dX8_open_30 flX8_33 kt_2 rfl rfl (fun h_5 => ?_)
  refine r_aload_n C 34 0 rfl dX8_open_33 rfl ?_
  refine r_iconst C 35 (nI 0) (by decide) dX8_open_34 rfl ?_
  refine r_putI C 38 dX8_open_35 flX8_36 kt_2 rfl rfl (fun h_6 => ?_)
  refine r_iconst C 39 (nI 1) (by decide) dX8_open_38 rfl ?_
  refine r_istore_n C 40 3 [(3, .int ((nI 1))), (0, .ref (kad κ 2)), (1, .int (x1)), (2, .int (x2))] dX8_open_39 rfl (by decide) rfl rfl ?_
  refine r_iconst C 41 (nI 0) (by decide) dX8_open_40 rfl ?_
  refine r_istore C 43 [(4, .int ((nI 0))), (3, .int ((nI 1))), (0, .ref (kad κ 2)), (1, .int (x1)), (2, .int (x2))] dX8_open_41 (by decide) rfl rfl ?_
  refine imp_sub [(0, .ref (kad κ 2)), (3, .int ((nI 1))), (4, .int ((nI 0)))] [2, 1, 0] rfl ?_
  refine imp_f_X8_open_L43 C Rr FU ((nI 1)) ((nI 0)) h_6
set_option maxHeartbeats 4000000 in
theorem ok_f_X8_open (x1 : Int32) (x2 : Int32)  (h : CH) : ∀ q, f_X8_open x1 x2 h = some q → MG yX8_open cX8_open 5 none [] 5 (fun ad => [.ref (ad 2), .int x1, .int x2]) h ((fun (_ : Unit × CH) (_ : Nat → Nat) => (none : Option Value)) q) ((fun (q : (Unit × CH)) => q.2) q) := mg_of RX8 (by decide) rfl (fun _ => Nat.le_of_ble_eq_true rfl) (fun κ C Rr => imp_f_X8_open C x1 x2 h Rr)
set_option maxHeartbeats 4000000 in
set_option maxRecDepth 100000 in
theorem imp_f_X9_setPrinter_31 {κ : Kx (Unit × CH)} (C : Cx κ cX9_setPrinter RX9 4 1 (40 * 1) []) (x1 : Int32) (x2 : Int32) (x3 : Int32)  (h : CH) (Rr : Rt κ none (fun (_ : Unit × CH) (_ : Nat → Nat) => (none : Option Value)) (fun (q : (Unit × CH)) => q.2)) : Imp κ 0 [(0, .ref (kad κ 31)), (1, .int (x1)), (2, .int (x2)), (3, .int (x3))] [] h (f_X9_setPrinter_31 x1 x2 x3 h) := by
  unfold f_X9_setPrinter_31
  refine r_iload_n C 1 1 rfl dX9_setPrinter_0 rfl ?_
  refine r_if_lt C 4 23 dX9_setPrinter_1 (by decide) rfl (fun c_1 => ?_) (fun c_1 => ?_)
  · exact r_vret C Rr dX9_setPrinter_23 (fun _ => rfl) rfl
  · refine r_iload_n C 5 1 rfl dX9_setPrinter_4 rfl ?_
    refine r_iconst C 6 (nI 4) (by decide) dX9_setPrinter_5 rfl ?_
    refine r_icmp_ge C 9 23 dX9_setPrinter_6 (by decide) rfl (fun c_2 => ?_) (fun c_2 => ?_)
    · refine r_aload_n C 10 0 rfl dX9_setPrinter_9 rfl ?_
      refine r_getR C 13 dX9_setPrinter_10 flX9_43 kt_31 rfl rf_31_9 rfl ?_
      refine r_iload_n C 14 1 rfl dX9_setPrinter_13 rfl ?_
      refine r_iload_n C 15 2 rfl dX9_setPrinter_14 rfl ?_
      refine r_iast C 16 dX9_setPrinter_15 kt_53 rfl rfl (fun h_3 => ?_)
      refine r_aload_n C 17 0 rfl dX9_setPrinter_16 rfl ?_
      refine r_getR C 20 dX9_setPrinter_17 flX9_46 kt_31 rfl rf_31_10 rfl ?_
      refine r_iload_n C 21 1 rfl dX9_setPrinter_20 rfl ?_
      refine r_iload_n C 22 3 rfl dX9_setPrinter_21 rfl ?_
      refine r_iast C 23 dX9_setPrinter_22 kt_54 rfl rfl (fun h_4 => ?_)
      exact r_vret C Rr dX9_setPrinter_23 (fun _ => rfl) rfl
    · exact r_vret C Rr dX9_setPrinter_23 (fun _ => rfl) rfl
set_option maxHeartbeats 4000000 in
theorem ok_f_X9_setPrinter_31 (x1 : Int32) (x2 : Int32) (x3 : Int32)  (h : CH) : ∀ q, f_X9_setPrinter_31 x1 x2 x3 h = some q → MG yX9_setPrinter cX9_setPrinter 4 none [] 1 (fun ad => [.ref (ad 31), .int x1, .int x2, .int x3]) h ((fun (_ : Unit × CH) (_ : Nat → Nat) => (none : Option Value)) q) ((fun (q : (Unit × CH)) => q.2) q) := mg_of RX9 (by decide) rfl (fun _ => Nat.le_of_ble_eq_true rfl) (fun κ C Rr => imp_f_X9_setPrinter_31 C x1 x2 x3 h Rr)
set_option maxHeartbeats 4000000 in
set_option maxRecDepth 100000 in
theorem imp_f_X9_clear_31_L44 {κ : Kx (Unit × CH)} (C : Cx κ cX9_clear RX9 2 2 (40 * 2) [])     (Rr : Rt κ none (fun (_ : Unit × CH) (_ : Nat → Nat) => (none : Option Value)) (fun (q : (Unit × CH)) => q.2)) : ∀ (n : Nat) (x1 : Int32) (h : CH), Imp κ 44 [(0, .ref (kad κ 31)), (1, .int (x1))] [] h (f_X9_clear_31_L44 n x1 h) := by
  intro n
  induction n with
  | zero => intros; exact imp_none
  | succ n ih =>
    intro x1 h
    rw [f_X9_clear_31_L44]
    refine r_iload_n C 45 1 rfl dX9_clear_44 rfl ?_
    refine r_iconst C 46 (nI 4) (by decide) dX9_clear_45 rfl ?_
    refine r_icmp_ge C 49 62 dX9_clear_46 (by decide) rfl (fun c_7 => ?_) (fun c_7 => ?_)
    · refine r_aload_n C 50 0 rfl dX9_clear_49 rfl ?_
      refine r_iload_n C 51 1 rfl dX9_clear_50 rfl ?_
      refine r_iconst C 52 (nI 0) (by decide) dX9_clear_51 rfl ?_
      refine r_iconst C 53 (nI 0) (by decide) dX9_clear_52 rfl ?_
      refine r_cViV C 56 [] (ok_f_X9_setPrinter_31 x1 ((nI 0)) ((nI 0)) h) dX9_clear_53 lvX9_49 kt_31 rfl rfl rfl (by decide) (Nat.le_of_ble_eq_true rfl) rfl rfl (Nat.le_of_ble_eq_true rfl) rfl rfl (fun _ h_8 => ?_)
      refine r_iinc C 59 1 (nI 1) [(1, .int (x1 + (nI 1))), (0, .ref (kad κ 31))] dX9_clear_56 rfl (by decide) (by decide) rfl rfl ?_
      refine r_goto C 44 dX9_clear_59 (by decide) ?_
      exact imp_sub [(0, .ref (kad κ 31)), (1, .int (x1 + (nI 1)))] [1, 0] rfl (ih (x1 + (nI 1)) h_8)
    · exact r_vret C Rr dX9_clear_62 (fun _ => rfl) rfl
set_option maxHeartbeats 4000000 in
set_option maxRecDepth 100000 in
theorem imp_f_X9_clear_31_L23 {κ : Kx (Unit × CH)} (C : Cx κ cX9_clear RX9 2 2 (40 * 2) [])     (Rr : Rt κ none (fun (_ : Unit × CH) (_ : Nat → Nat) => (none : Option Value)) (fun (q : (Unit × CH)) => q.2)) : ∀ (n : Nat) (x1 : Int32) (h : CH), Imp κ 23 [(0, .ref (kad κ 31)), (1, .int (x1))] [] h (f_X9_clear_31_L23 n x1 h) := by
  intro n
  induction n with
  | zero => intros; exact imp_none
  | succ n ih =>
    intro x1 h
    rw [f_X9_clear_31_L23]
    refine r_iload_n C 24 1 rfl dX9_clear_23 rfl ?_
    refine r_bipush C 26 (nI 16) (by decide) dX9_clear_24 rfl ?_
    refine r_icmp_ge C 29 42 dX9_clear_26 (by decide) rfl (fun c_5 => ?_) (fun c_5 => ?_)
    · refine r_aload_n C 30 0 rfl dX9_clear_29 rfl ?_
      refine r_getR C 33 dX9_clear_30 flX9_40 kt_31 rfl rf_31_8 rfl ?_
      refine r_iload_n C 34 1 rfl dX9_clear_33 rfl ?_
      refine r_iconst C 35 (nI 0) (by decide) dX9_clear_34 rfl ?_
      refine r_iast C 36 dX9_clear_35 kt_52 rfl rfl (fun h_6 => ?_)
      refine r_iinc C 39 1 (nI 1) [(1, .int (x1 + (nI 1))), (0, .ref (kad κ 31))] dX9_clear_36 rfl (by decide) (by decide) rfl rfl ?_
      refine r_goto C 23 dX9_clear_39 (by decide) ?_
      exact imp_sub [(0, .ref (kad κ 31)), (1, .int (x1 + (nI 1)))] [1, 0] rfl (ih (x1 + (nI 1)) h_6)
    · refine r_iconst C 43 (nI 0) (by decide) dX9_clear_42 rfl ?_
      refine r_istore_n C 44 1 [(1, .int ((nI 0))), (0, .ref (kad κ 31))] dX9_clear_43 rfl (by decide) rfl rfl ?_
      refine imp_sub [(0, .ref (kad κ 31)), (1, .int ((nI 0)))] [1, 0] rfl ?_
      refine imp_f_X9_clear_31_L44 C Rr FU ((nI 0)) h
set_option maxHeartbeats 4000000 in
set_option maxRecDepth 100000 in
theorem imp_f_X9_clear_31 {κ : Kx (Unit × CH)} (C : Cx κ cX9_clear RX9 2 2 (40 * 2) [])   (h : CH) (Rr : Rt κ none (fun (_ : Unit × CH) (_ : Nat → Nat) => (none : Option Value)) (fun (q : (Unit × CH)) => q.2)) : Imp κ 0 [(0, .ref (kad κ 31))] [] h (f_X9_clear_31 h) := by
  unfold f_X9_clear_31
  refine r_aload_n C 1 0 rfl dX9_clear_0 rfl ?_
  refine r_iconst C 2 (nI 5) (by decide) dX9_clear_1 rfl ?_
  refine r_putI C 5 dX9_clear_2 flX9_9 kt_31 rfl rfl (fun h_1 => ?_)
  refine r_aload_n C 6 0 rfl dX9_clear_5 rfl ?_
  refine r_bipush C 8 (nI 20) (by decide) dX9_clear_6 rfl ?_
  refine r_putI C 11 dX9_clear_8 flX9_15 kt_31 rfl rfl (fun h_2 => ?_)
  refine r_aload_n C 12 0 rfl dX9_clear_11 rfl ?_
  refine r_iconst C 13 (nI 0) (by decide) dX9_clear_12 rfl ?_
  refine r_putI C 16 dX9_clear_13 flX9_18 kt_31 rfl rfl (fun h_3 => ?_)
  refine r_aload_n C 17 0 rfl dX9_clear_16 rfl ?_
  refine r_iconst C 18 (nI 0) (by decide) dX9_clear_17 rfl ?_
  refine r_putI C 21 dX9_clear_18 flX9_21 kt_31 rfl rfl (fun h_4 => ?_)
  refine r_iconst C 22 (nI 0) (by decide) dX9_clear_21 rfl ?_
  refine r_istore_n C 23 1 [(1, .int ((nI 0))), (0, .ref (kad κ 31))] dX9_clear_22 rfl (by decide) rfl rfl ?_
  refine imp_sub [(0, .ref (kad κ 31)), (1, .int ((nI 0)))] [1, 0] rfl ?_
  refine imp_f_X9_clear_31_L23 C Rr FU ((nI 0)) h_4
set_option maxHeartbeats 4000000 in
theorem ok_f_X9_clear_31   (h : CH) : ∀ q, f_X9_clear_31 h = some q → MG yX9_clear cX9_clear 2 none [] 2 (fun ad => [.ref (ad 31)]) h ((fun (_ : Unit × CH) (_ : Nat → Nat) => (none : Option Value)) q) ((fun (q : (Unit × CH)) => q.2) q) := mg_of RX9 (by decide) rfl (fun _ => Nat.le_of_ble_eq_true rfl) (fun κ C Rr => imp_f_X9_clear_31 C  h Rr)
set_option maxHeartbeats 4000000 in
set_option maxRecDepth 100000 in
theorem imp_f_X8_refuse {κ : Kx (Int32 × CH)} (C : Cx κ cX8_refuse RX8 2 1 (40 * 1) []) (x1 : Int32)  (h : CH) (Rr : Rt κ (some .boolean) (fun (q : Int32 × CH) (_ : Nat → Nat) => some (Value.int q.1)) (fun (q : (Int32 × CH)) => q.2)) : Imp κ 0 [(0, .ref (kad κ 2)), (1, .int (x1))] [] h (f_X8_refuse x1 h) := by
  unfold f_X8_refuse
  refine r_aload_n C 1 0 rfl dX8_refuse_0 rfl ?_
  refine r_aload_n C 2 0 rfl dX8_refuse_1 rfl ?_
  refine r_getI C 5 dX8_refuse_2 flX8_42 kt_2 rfl rfl ?_
  refine r_bipush C 7 (nI 27) (by decide) dX8_refuse_5 rfl ?_
  refine imp_jn (fun (j_2 : Int32 → Option (Int32 × CH)) => ∀ (s_1 : Int32), Imp κ 15 [(0, .ref (kad κ 2))] [.int (s_1), .ref (kad κ 2)] h (j_2 s_1)) ?_ ?_
  · intro s_1
    refine r_putI C 18 dX8_refuse_15 flX8_52 kt_2 rfl rfl (fun h_3 => ?_)
    refine r_aload_n C 19 0 rfl dX8_refuse_18 rfl ?_
    refine r_aload_n C 20 0 rfl dX8_refuse_19 rfl ?_
    refine r_getI C 23 dX8_refuse_20 flX8_39 kt_2 rfl rfl ?_
    refine imp_jn (fun (j_5 : Int32 → Option (Int32 × CH)) => ∀ (s_4 : Int32), Imp κ 49 [] [.int (s_4), .ref (kad κ 2)] h_3 (j_5 s_4)) ?_ ?_
    · intro s_4
      refine r_putI C 52 dX8_refuse_49 flX8_55 kt_2 rfl rfl (fun h_6 => ?_)
      refine r_iconst C 53 (nI 0) (by decide) dX8_refuse_52 rfl ?_
      exact r_zret C Rr (by decide) dX8_refuse_53 (fun _ => rfl) rfl
    · intro j_5 hj_5
      refine imp_jn (fun (j_7 : Option (Int32 × CH)) =>  Imp κ 48 [] [.ref (kad κ 2)] h_3 (j_7)) ?_ ?_
      · refine r_iconst C 49 (-1) (by decide) dX8_refuse_48 rfl ?_
        exact imp_sub [] [] rfl (hj_5 ((-1)))
      · intro j_7 hj_7
        refine r_if_lt C 26 48 dX8_refuse_23 (by decide) rfl (fun c_8 => ?_) (fun c_8 => ?_)
        · exact imp_sub [] [] rfl (hj_7)
        · refine r_aload_n C 27 0 rfl dX8_refuse_26 rfl ?_
          refine r_getI C 30 dX8_refuse_27 flX8_39 kt_2 rfl rfl ?_
          refine r_sipush C 33 (nI 1601) (by decide) dX8_refuse_30 rfl ?_
          refine r_icmp_ge C 36 48 dX8_refuse_33 (by decide) rfl (fun c_9 => ?_) (fun c_9 => ?_)
          · refine r_aload_n C 37 0 rfl dX8_refuse_36 rfl ?_
            refine r_getR C 40 dX8_refuse_37 flX8_19 kt_2 rfl rf_2_3 rfl ?_
            refine r_aload_n C 41 0 rfl dX8_refuse_40 rfl ?_
            refine r_getI C 44 dX8_refuse_41 flX8_39 kt_2 rfl rfl ?_
            refine r_iald C 45 dX8_refuse_44 kt_5 rfl rfl (fun v_10 => ?_)
            refine r_goto C 49 dX8_refuse_45 (by decide) ?_
            exact imp_sub [] [] rfl (hj_5 (v_10))
          · exact imp_sub [] [] rfl (hj_7)
  · intro j_2 hj_2
    refine r_icmp_ne C 10 14 dX8_refuse_7 (by decide) rfl (fun c_11 => ?_) (fun c_11 => ?_)
    · refine r_iconst C 11 (nI 1) (by decide) dX8_refuse_10 rfl ?_
      refine r_goto C 15 dX8_refuse_11 (by decide) ?_
      exact imp_sub [(0, .ref (kad κ 2))] [0] rfl (hj_2 ((nI 1)))
    · refine r_iload_n C 15 1 rfl dX8_refuse_14 rfl ?_
      exact imp_sub [(0, .ref (kad κ 2))] [0] rfl (hj_2 (x1))
set_option maxHeartbeats 4000000 in
theorem ok_f_X8_refuse (x1 : Int32)  (h : CH) : ∀ q, f_X8_refuse x1 h = some q → MG yX8_refuse cX8_refuse 2 (some .boolean) [] 1 (fun ad => [.ref (ad 2), .int x1]) h ((fun (q : Int32 × CH) (_ : Nat → Nat) => some (Value.int q.1)) q) ((fun (q : (Int32 × CH)) => q.2) q) := mg_of RX8 (by decide) rfl (fun _ => Nat.le_of_ble_eq_true rfl) (fun κ C Rr => imp_f_X8_refuse C x1 h Rr)
set_option maxHeartbeats 4000000 in
set_option maxRecDepth 100000 in
theorem imp_f_X8_isNumber {κ : Kx (Int32 × CH)} (C : Cx κ cX8_isNumber RX8 3 2 (40 * 2) []) (x1 : Int32) (x2 : Int32)  (h : CH) (Rr : Rt κ (some .boolean) (fun (q : Int32 × CH) (_ : Nat → Nat) => some (Value.int q.1)) (fun (q : (Int32 × CH)) => q.2)) : Imp κ 0 [(0, .ref (kad κ 2)), (1, .int (x1)), (2, .int (x2))] [] h (f_X8_isNumber x1 x2 h) := by
  unfold f_X8_isNumber
  refine r_aload_n C 1 0 rfl dX8_isNumber_0 rfl ?_
  refine r_getI C 4 dX8_isNumber_1 flX8_42 kt_2 rfl rfl ?_
  refine r_bipush C 6 (nI 25) (by decide) dX8_isNumber_4 rfl ?_
  refine r_icmp_eq C 9 15 dX8_isNumber_6 (by decide) rfl (fun c_1 => ?_) (fun c_1 => ?_)
  · refine r_aload_n C 16 0 rfl dX8_isNumber_15 rfl ?_
    refine r_getI C 19 dX8_isNumber_16 flX8_45 kt_2 rfl rfl ?_
    refine r_iload_n C 20 1 rfl dX8_isNumber_19 rfl ?_
    refine imp_jn (fun (j_3 : CH → Option (Int32 × CH)) => ∀ (h_2 : CH), Imp κ 39 [] [] h_2 (j_3 h_2)) ?_ ?_
    · intro h_2
      refine r_iconst C 40 (nI 1) (by decide) dX8_isNumber_39 rfl ?_
      refine r_goto C 44 dX8_isNumber_40 (by decide) ?_
      exact r_zret C Rr (by decide) dX8_isNumber_44 (fun _ => rfl) rfl
    · intro j_3 hj_3
      refine imp_jn (fun (j_4 : Option (Int32 × CH)) =>  Imp κ 31 [(0, .ref (kad κ 2))] [] h (j_4)) ?_ ?_
      · refine r_aload_n C 32 0 rfl dX8_isNumber_31 rfl ?_
        refine r_iconst C 33 (nI 4) (by decide) dX8_isNumber_32 rfl ?_
        refine r_cViI C 36 [] (ok_f_X8_refuse ((nI 4)) h) dX8_isNumber_33 lvX8_118 kt_2 rfl rfl rfl (by decide) (Nat.le_of_ble_eq_true rfl) rfl rfl (Nat.le_of_ble_eq_true rfl) rfl rfl (fun v_5 h_6 => ?_)
        refine r_if_eq C 39 43 dX8_isNumber_36 (by decide) rfl (fun c_7 => ?_) (fun c_7 => ?_)
        · refine r_iconst C 44 (nI 0) (by decide) dX8_isNumber_43 rfl ?_
          exact r_zret C Rr (by decide) dX8_isNumber_44 (fun _ => rfl) rfl
        · exact imp_sub [] [] rfl (hj_3 h_6)
      · intro j_4 hj_4
        refine r_icmp_lt C 23 31 dX8_isNumber_20 (by decide) rfl (fun c_8 => ?_) (fun c_8 => ?_)
        · exact imp_sub [(0, .ref (kad κ 2))] [0] rfl (hj_4)
        · refine r_aload_n C 24 0 rfl dX8_isNumber_23 rfl ?_
          refine r_getI C 27 dX8_isNumber_24 flX8_45 kt_2 rfl rfl ?_
          refine r_iload_n C 28 2 rfl dX8_isNumber_27 rfl ?_
          refine r_icmp_le C 31 39 dX8_isNumber_28 (by decide) rfl (fun c_9 => ?_) (fun c_9 => ?_)
          · exact imp_sub [(0, .ref (kad κ 2))] [0] rfl (hj_4)
          · exact imp_sub [] [] rfl (hj_3 h)
  · refine r_aload_n C 10 0 rfl dX8_isNumber_9 rfl ?_
    refine r_iconst C 11 (nI 2) (by decide) dX8_isNumber_10 rfl ?_
    refine r_cViI C 14 [] (ok_f_X8_refuse ((nI 2)) h) dX8_isNumber_11 lvX8_118 kt_2 rfl rfl rfl (by decide) (Nat.le_of_ble_eq_true rfl) rfl rfl (Nat.le_of_ble_eq_true rfl) rfl rfl (fun v_10 h_11 => ?_)
    exact r_zretg C Rr dX8_isNumber_14 (fun _ => rfl) rfl
set_option maxHeartbeats 4000000 in
theorem ok_f_X8_isNumber (x1 : Int32) (x2 : Int32)  (h : CH) : ∀ q, f_X8_isNumber x1 x2 h = some q → MG yX8_isNumber cX8_isNumber 3 (some .boolean) [] 2 (fun ad => [.ref (ad 2), .int x1, .int x2]) h ((fun (q : Int32 × CH) (_ : Nat → Nat) => some (Value.int q.1)) q) ((fun (q : (Int32 × CH)) => q.2) q) := mg_of RX8 (by decide) rfl (fun _ => Nat.le_of_ble_eq_true rfl) (fun κ C Rr => imp_f_X8_isNumber C x1 x2 h Rr)
set_option maxHeartbeats 4000000 in
set_option maxRecDepth 100000 in
theorem imp_f_X8_take {κ : Kx (Int32 × CH)} (C : Cx κ cX8_take RX8 2 2 (40 * 2) []) (x1 : Int32)  (h : CH) (Rr : Rt κ (some .boolean) (fun (q : Int32 × CH) (_ : Nat → Nat) => some (Value.int q.1)) (fun (q : (Int32 × CH)) => q.2)) : Imp κ 0 [(0, .ref (kad κ 2)), (1, .int (x1))] [] h (f_X8_take x1 h) := by
  unfold f_X8_take
  refine r_aload_n C 1 0 rfl dX8_take_0 rfl ?_
  refine r_getI C 4 dX8_take_1 flX8_42 kt_2 rfl rfl ?_
  refine r_iload_n C 5 1 rfl dX8_take_4 rfl ?_
  refine r_icmp_eq C 8 14 dX8_take_5 (by decide) rfl (fun c_1 => ?_) (fun c_1 => ?_)
  · refine r_aload_n C 15 0 rfl dX8_take_14 rfl ?_
    refine r_cViV C 18 [] (ok_f_X8_step h) dX8_take_15 lvX8_87 kt_2 rfl rfl rfl (by decide) (Nat.le_of_ble_eq_true rfl) rfl rfl (Nat.le_of_ble_eq_true rfl) rfl rfl (fun _ h_2 => ?_)
    refine r_iconst C 19 (nI 1) (by decide) dX8_take_18 rfl ?_
    exact r_zret C Rr (by decide) dX8_take_19 (fun _ => rfl) rfl
  · refine r_aload_n C 9 0 rfl dX8_take_8 rfl ?_
    refine r_iconst C 10 (nI 2) (by decide) dX8_take_9 rfl ?_
    refine r_cViI C 13 [] (ok_f_X8_refuse ((nI 2)) h) dX8_take_10 lvX8_118 kt_2 rfl rfl rfl (by decide) (Nat.le_of_ble_eq_true rfl) rfl rfl (Nat.le_of_ble_eq_true rfl) rfl rfl (fun v_3 h_4 => ?_)
    exact r_zretg C Rr dX8_take_13 (fun _ => rfl) rfl
set_option maxHeartbeats 4000000 in
theorem ok_f_X8_take (x1 : Int32)  (h : CH) : ∀ q, f_X8_take x1 h = some q → MG yX8_take cX8_take 2 (some .boolean) [] 2 (fun ad => [.ref (ad 2), .int x1]) h ((fun (q : Int32 × CH) (_ : Nat → Nat) => some (Value.int q.1)) q) ((fun (q : (Int32 × CH)) => q.2) q) := mg_of RX8 (by decide) rfl (fun _ => Nat.le_of_ble_eq_true rfl) (fun κ C Rr => imp_f_X8_take C x1 h Rr)
set_option maxHeartbeats 4000000 in
set_option maxRecDepth 100000 in
theorem imp_f_X10_readPoints {κ : Kx (Int32 × CH)} (C : Cx κ cX10_readPoints RX10 1 3 (40 * 3) [193])   (h : CH) (Rr : Rt κ (some .boolean) (fun (q : Int32 × CH) (_ : Nat → Nat) => some (Value.int q.1)) (fun (q : (Int32 × CH)) => q.2)) : Imp κ 0 [(0, .ref (kad κ 193))] [] h (f_X10_readPoints h) := by
  unfold f_X10_readPoints
  refine r_aload_n C 1 0 rfl dX10_readPoints_0 rfl ?_
  refine r_getI C 4 dX10_readPoints_1 flX10_9 kt_193 rfl rfl ?_
  refine imp_jn (fun (j_1 : Option (Int32 × CH)) =>  Imp κ 17 [(0, .ref (kad κ 193))] [] h (j_1)) ?_ ?_
  · refine r_aload_n C 18 0 rfl dX10_readPoints_17 rfl ?_
    refine r_getR C 21 dX10_readPoints_18 flX10_22 kt_193 rfl rf_193_0 rfl ?_
    refine r_iconst C 22 (nI 2) (by decide) dX10_readPoints_21 rfl ?_
    refine r_cViI C 25 [] (ok_f_X8_refuse ((nI 2)) h) dX10_readPoints_22 lvX10_59 kt_2 rfl rfl rfl (by decide) (Nat.le_of_ble_eq_true rfl) rfl rfl (Nat.le_of_ble_eq_true rfl) rfl rfl (fun v_2 h_3 => ?_)
    exact r_zretg C Rr dX10_readPoints_25 (fun _ => rfl) rfl
  · intro j_1 hj_1
    refine r_if_ne C 7 17 dX10_readPoints_4 (by decide) rfl (fun c_4 => ?_) (fun c_4 => ?_)
    · refine r_aload_n C 8 0 rfl dX10_readPoints_7 rfl ?_
      refine r_getR C 11 dX10_readPoints_8 flX10_26 kt_193 rfl rf_193_1 rfl ?_
      refine r_getI C 14 dX10_readPoints_11 flX10_63 kt_31 rfl rfl ?_
      refine r_if_le C 17 26 dX10_readPoints_14 (by decide) rfl (fun c_5 => ?_) (fun c_5 => ?_)
      · exact imp_sub [(0, .ref (kad κ 193))] [0] rfl (hj_1)
      · refine r_aload_n C 27 0 rfl dX10_readPoints_26 rfl ?_
        refine r_getR C 30 dX10_readPoints_27 flX10_22 kt_193 rfl rf_193_0 rfl ?_
        refine r_cViV C 33 [] (ok_f_X8_step h) dX10_readPoints_30 lvX10_66 kt_2 rfl rfl rfl (by decide) (Nat.le_of_ble_eq_true rfl) rfl rfl (Nat.le_of_ble_eq_true rfl) rfl rfl (fun _ h_6 => ?_)
        refine r_aload_n C 34 0 rfl dX10_readPoints_33 rfl ?_
        refine r_getR C 37 dX10_readPoints_34 flX10_22 kt_193 rfl rf_193_0 rfl ?_
        refine r_iconst C 38 (nI 3) (by decide) dX10_readPoints_37 rfl ?_
        refine r_bipush C 40 (nI 8) (by decide) dX10_readPoints_38 rfl ?_
        refine r_cViI C 43 [] (ok_f_X8_isNumber ((nI 3)) ((nI 8)) h_6) dX10_readPoints_40 lvX10_69 kt_2 rfl rfl rfl (by decide) (Nat.le_of_ble_eq_true rfl) rfl rfl (Nat.le_of_ble_eq_true rfl) rfl rfl (fun v_7 h_8 => ?_)
        refine r_if_ne C 46 48 dX10_readPoints_43 (by decide) rfl (fun c_9 => ?_) (fun c_9 => ?_)
        · refine r_iconst C 47 (nI 0) (by decide) dX10_readPoints_46 rfl ?_
          exact r_zret C Rr (by decide) dX10_readPoints_47 (fun _ => rfl) rfl
        · refine r_aload_n C 49 0 rfl dX10_readPoints_48 rfl ?_
          refine r_getR C 52 dX10_readPoints_49 flX10_26 kt_193 rfl rf_193_1 rfl ?_
          refine r_aload_n C 53 0 rfl dX10_readPoints_52 rfl ?_
          refine r_getR C 56 dX10_readPoints_53 flX10_22 kt_193 rfl rf_193_0 rfl ?_
          refine r_getI C 59 dX10_readPoints_56 flX10_73 kt_2 rfl rfl ?_
          refine r_putI C 62 dX10_readPoints_59 flX10_76 kt_31 rfl rfl (fun h_10 => ?_)
          refine r_aload_n C 63 0 rfl dX10_readPoints_62 rfl ?_
          refine r_iconst C 64 (nI 1) (by decide) dX10_readPoints_63 rfl ?_
          refine r_putZ C 67 dX10_readPoints_64 flX10_9 kt_193 rfl rfl (fun h_11 => ?_)
          refine r_aload_n C 68 0 rfl dX10_readPoints_67 rfl ?_
          refine r_getR C 71 dX10_readPoints_68 flX10_22 kt_193 rfl rf_193_0 rfl ?_
          refine r_cViV C 74 [] (ok_f_X8_step h_11) dX10_readPoints_71 lvX10_66 kt_2 rfl rfl rfl (by decide) (Nat.le_of_ble_eq_true rfl) rfl rfl (Nat.le_of_ble_eq_true rfl) rfl rfl (fun _ h_12 => ?_)
          refine r_aload_n C 75 0 rfl dX10_readPoints_74 rfl ?_
          refine r_getR C 78 dX10_readPoints_75 flX10_22 kt_193 rfl rf_193_0 rfl ?_
          refine r_bipush C 80 (nI 59) (by decide) dX10_readPoints_78 rfl ?_
          refine r_cViI C 83 [] (ok_f_X8_take ((nI 59)) h_12) dX10_readPoints_80 lvX10_79 kt_2 rfl rfl rfl (by decide) (Nat.le_of_ble_eq_true rfl) rfl rfl (Nat.le_of_ble_eq_true rfl) rfl rfl (fun v_13 h_14 => ?_)
          exact r_zretg C Rr dX10_readPoints_83 (fun _ => rfl) rfl
    · exact imp_sub [(0, .ref (kad κ 193))] [0] rfl (hj_1)
set_option maxHeartbeats 4000000 in
theorem ok_f_X10_readPoints   (h : CH) : ∀ q, f_X10_readPoints h = some q → MG yX10_readPoints cX10_readPoints 1 (some .boolean) [193] 3 (fun ad => [.ref (ad 193)]) h ((fun (q : Int32 × CH) (_ : Nat → Nat) => some (Value.int q.1)) q) ((fun (q : (Int32 × CH)) => q.2) q) := mg_of RX10 (by decide) rfl (fun _ => Nat.le_of_ble_eq_true rfl) (fun κ C Rr => imp_f_X10_readPoints C  h Rr)
set_option maxHeartbeats 4000000 in
set_option maxRecDepth 100000 in
theorem imp_f_X9_named_31_L2 {κ : Kx Int32} (C : Cx κ cX9_named RX9 4 1 (40 * 1) []) (x1 : Int64) (h : CH)    (Rr : Rt κ (some .int) (fun (x : Int32) (_ : Nat → Nat) => some (Value.int x)) (fun (_ : Int32) => h)) : ∀ (n : Nat) (x3 : Int32), Imp κ 2 [(0, .ref (kad κ 31)), (1, .long (x1)), (3, .int (x3))] [] h (f_X9_named_31_L2 x1 h n x3) := by
  intro n
  induction n with
  | zero => intros; exact imp_none
  | succ n ih =>
    intro x3
    rw [f_X9_named_31_L2]
    refine r_iload_n C 3 2 rfl dX9_named_2 rfl ?_
    refine r_aload_n C 4 0 rfl dX9_named_3 rfl ?_
    refine r_getI C 7 dX9_named_4 flX9_18 kt_31 rfl rfl ?_
    refine r_icmp_ge C 10 35 dX9_named_7 (by decide) rfl (fun c_1 => ?_) (fun c_1 => ?_)
    · refine r_iload_n C 11 2 rfl dX9_named_10 rfl ?_
      refine r_bipush C 13 (nI 16) (by decide) dX9_named_11 rfl ?_
      refine r_icmp_ge C 16 35 dX9_named_13 (by decide) rfl (fun c_2 => ?_) (fun c_2 => ?_)
      · refine r_aload_n C 17 0 rfl dX9_named_16 rfl ?_
        refine r_getR C 20 dX9_named_17 flX9_24 kt_31 rfl rf_31_4 rfl ?_
        refine r_iload_n C 21 2 rfl dX9_named_20 rfl ?_
        refine r_lald C 22 dX9_named_21 kt_32 rfl rfl (fun v_3 => ?_)
        refine r_lload_n C 23 1 rfl dX9_named_22 rfl ?_
        refine r_lcmp C 24 dX9_named_23 rfl ?_
        refine r_if_ne C 27 29 dX9_named_24 (by decide) rfl (fun c_4 => ?_) (fun c_4 => ?_)
        · refine r_iload_n C 28 2 rfl dX9_named_27 rfl ?_
          exact r_iret C Rr dX9_named_28 (fun _ => rfl) rfl
        · refine r_iinc C 32 2 (nI 1) [(3, .int (x3 + (nI 1))), (0, .ref (kad κ 31)), (1, .long (x1))] dX9_named_29 rfl (by decide) (by decide) rfl rfl ?_
          refine r_goto C 2 dX9_named_32 (by decide) ?_
          exact imp_sub [(0, .ref (kad κ 31)), (1, .long (x1)), (3, .int (x3 + (nI 1)))] [1, 2, 0] rfl (ih (x3 + (nI 1)))
      · refine r_iconst C 36 (-1) (by decide) dX9_named_35 rfl ?_
        exact r_iret C Rr dX9_named_36 (fun _ => rfl) rfl
    · refine r_iconst C 36 (-1) (by decide) dX9_named_35 rfl ?_
      exact r_iret C Rr dX9_named_36 (fun _ => rfl) rfl
set_option maxHeartbeats 4000000 in
set_option maxRecDepth 100000 in
theorem imp_f_X9_named_31 {κ : Kx Int32} (C : Cx κ cX9_named RX9 4 1 (40 * 1) []) (x1 : Int64)  (h : CH) (Rr : Rt κ (some .int) (fun (x : Int32) (_ : Nat → Nat) => some (Value.int x)) (fun (_ : Int32) => h)) : Imp κ 0 [(0, .ref (kad κ 31)), (1, .long (x1))] [] h (f_X9_named_31 x1 h) := by
  unfold f_X9_named_31
  refine r_iconst C 1 (nI 0) (by decide) dX9_named_0 rfl ?_
  refine r_istore_n C 2 3 [(3, .int ((nI 0))), (0, .ref (kad κ 31)), (1, .long (x1))] dX9_named_1 rfl (by decide) rfl rfl ?_
  refine imp_sub [(0, .ref (kad κ 31)), (1, .long (x1)), (3, .int ((nI 0)))] [1, 2, 0] rfl ?_
  refine imp_f_X9_named_31_L2 C (x1) h Rr FU ((nI 0))
set_option maxHeartbeats 4000000 in
theorem ok_f_X9_named_31 (x1 : Int64)  (h : CH) : ∀ q, f_X9_named_31 x1 h = some q → MG yX9_named cX9_named 4 (some .int) [] 1 (fun ad => [.ref (ad 31), .long x1]) h ((fun (x : Int32) (_ : Nat → Nat) => some (Value.int x)) q) ((fun (_ : Int32) => h) q) := mg_of RX9 (by decide) rfl (fun _ => Nat.le_of_ble_eq_true rfl) (fun κ C Rr => imp_f_X9_named_31 C x1 h Rr)
set_option maxHeartbeats 4000000 in
set_option maxRecDepth 100000 in
theorem imp_f_X9_setNextMeasure_31 {κ : Kx (Unit × CH)} (C : Cx κ cX9_setNextMeasure RX9 3 1 (40 * 1) []) (x1 : Int32) (x2 : Int32)  (h : CH) (Rr : Rt κ none (fun (_ : Unit × CH) (_ : Nat → Nat) => (none : Option Value)) (fun (q : (Unit × CH)) => q.2)) : Imp κ 0 [(0, .ref (kad κ 31)), (1, .int (x1)), (2, .int (x2))] [] h (f_X9_setNextMeasure_31 x1 x2 h) := by
  unfold f_X9_setNextMeasure_31
  refine r_aload_n C 1 0 rfl dX9_setNextMeasure_0 rfl ?_
  refine r_getI C 4 dX9_setNextMeasure_1 flX9_18 kt_31 rfl rfl ?_
  refine r_bipush C 6 (nI 16) (by decide) dX9_setNextMeasure_4 rfl ?_
  refine r_icmp_ge C 9 31 dX9_setNextMeasure_6 (by decide) rfl (fun c_1 => ?_) (fun c_1 => ?_)
  · refine r_iload_n C 10 1 rfl dX9_setNextMeasure_9 rfl ?_
    refine r_if_lt C 13 31 dX9_setNextMeasure_10 (by decide) rfl (fun c_2 => ?_) (fun c_2 => ?_)
    · exact r_vret C Rr dX9_setNextMeasure_31 (fun _ => rfl) rfl
    · refine r_iload_n C 14 1 rfl dX9_setNextMeasure_13 rfl ?_
      refine r_bipush C 16 (nI 8) (by decide) dX9_setNextMeasure_14 rfl ?_
      refine r_icmp_ge C 19 31 dX9_setNextMeasure_16 (by decide) rfl (fun c_3 => ?_) (fun c_3 => ?_)
      · refine r_aload_n C 20 0 rfl dX9_setNextMeasure_19 rfl ?_
        refine r_getR C 23 dX9_setNextMeasure_20 flX9_37 kt_31 rfl rf_31_7 rfl ?_
        refine r_aload_n C 24 0 rfl dX9_setNextMeasure_23 rfl ?_
        refine r_getI C 27 dX9_setNextMeasure_24 flX9_18 kt_31 rfl rfl ?_
        refine r_aald C 28 dX9_setNextMeasure_27 kt_35 rfl rq_35 kq_35 rfl (fun q_4 hq_4 => ?_)
        refine r_iload_n C 29 1 rfl dX9_setNextMeasure_28 rfl ?_
        refine r_iload_n C 30 2 rfl dX9_setNextMeasure_29 rfl ?_
        refine r_iast C 31 dX9_setNextMeasure_30 hq_4.1 (okid_lt hq_4.2) rfl (fun h_5 => ?_)
        exact r_vret C Rr dX9_setNextMeasure_31 (fun _ => rfl) rfl
      · exact r_vret C Rr dX9_setNextMeasure_31 (fun _ => rfl) rfl
  · exact r_vret C Rr dX9_setNextMeasure_31 (fun _ => rfl) rfl
set_option maxHeartbeats 4000000 in
theorem ok_f_X9_setNextMeasure_31 (x1 : Int32) (x2 : Int32)  (h : CH) : ∀ q, f_X9_setNextMeasure_31 x1 x2 h = some q → MG yX9_setNextMeasure cX9_setNextMeasure 3 none [] 1 (fun ad => [.ref (ad 31), .int x1, .int x2]) h ((fun (_ : Unit × CH) (_ : Nat → Nat) => (none : Option Value)) q) ((fun (q : (Unit × CH)) => q.2) q) := mg_of RX9 (by decide) rfl (fun _ => Nat.le_of_ble_eq_true rfl) (fun κ C Rr => imp_f_X9_setNextMeasure_31 C x1 x2 h Rr)
