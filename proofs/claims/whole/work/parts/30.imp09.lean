/-! the methods do what the functions say, by program -/
set_option maxHeartbeats 4000000 in
set_option maxRecDepth 100000 in
theorem imp_f_X12_bestShare_L9 {κ : Kx (Int32 × CH)} (C : Cx κ cX12_bestShare RX12 11 6 (40 * 6) []) (x1 : Int32) (x2 : Int32) (x3 : Int32) (x4 : Int32)    (Rr : Rt κ (some .int) (fun (q : Int32 × CH) (_ : Nat → Nat) => some (Value.int q.1)) (fun (q : (Int32 × CH)) => q.2)) : ∀ (n : Nat) (x5 : Int32) (x6 : Int32) (x7 : Int32) (h : CH), Imp κ 9 [(0, .ref (kad κ 151)), (1, .int (x1)), (2, .int (x2)), (3, .int (x3)), (4, .int (x4)), (5, .int (x5)), (6, .int (x6)), (7, .int (x7))] [] h (f_X12_bestShare_L9 x1 x2 x3 x4 n x5 x6 x7 h) := by
  intro n
  induction n with
  | zero => intros; exact imp_none
  | succ n ih =>
    intro x5 x6 x7 h
    rw [f_X12_bestShare_L9]
    refine r_iload C 11 7 rfl dX12_bestShare_9 rfl ?_
    refine r_bipush C 13 (nI 10) (by decide) dX12_bestShare_11 rfl ?_
    refine r_icmp_gt C 16 115 dX12_bestShare_13 (by decide) rfl (fun c_1 => ?_) (fun c_1 => ?_)
    · refine r_iload C 117 5 rfl dX12_bestShare_115 rfl ?_
      exact r_iret C Rr dX12_bestShare_117 (fun _ => rfl) rfl
    · refine r_aload_n C 17 0 rfl dX12_bestShare_16 rfl ?_
      refine r_iload_n C 18 1 rfl dX12_bestShare_17 rfl ?_
      refine r_iload_n C 19 2 rfl dX12_bestShare_18 rfl ?_
      refine r_iload C 21 7 rfl dX12_bestShare_19 rfl ?_
      refine r_iconst C 22 (-1) (by decide) dX12_bestShare_21 rfl ?_
      refine r_cViV C 25 [] (ok_f_X12_layMix x1 x2 x7 ((-1)) h) dX12_bestShare_22 lvX12_427 kt_151 rfl rfl rfl (by decide) (Nat.le_of_ble_eq_true rfl) rfl rfl (Nat.le_of_ble_eq_true rfl) rfl rfl (fun _ h_2 => ?_)
      refine r_aload_n C 26 0 rfl dX12_bestShare_25 rfl ?_
      refine r_iload_n C 27 1 rfl dX12_bestShare_26 rfl ?_
      refine r_iload_n C 28 3 rfl dX12_bestShare_27 rfl ?_
      refine r_iload C 30 4 rfl dX12_bestShare_28 rfl ?_
      refine r_cViI C 33 [] (ok_f_X12_isPass x1 x3 x4 h_2) dX12_bestShare_30 lvX12_431 kt_151 rfl rfl rfl (by decide) (Nat.le_of_ble_eq_true rfl) rfl rfl (Nat.le_of_ble_eq_true rfl) rfl rfl (fun v_3 h_4 => ?_)
      refine imp_jn (fun (j_8 : Int32 → Int32 → CH → Option (Int32 × CH)) => ∀ (x5_5 : Int32) (x6_6 : Int32) (h_7 : CH), Imp κ 109 [(0, .ref (kad κ 151)), (1, .int (x1)), (2, .int (x2)), (3, .int (x3)), (4, .int (x4)), (5, .int (x5_5)), (6, .int (x6_6)), (7, .int (x7))] [] h_7 (j_8 x5_5 x6_6 h_7)) ?_ ?_
      · intro x5_5 x6_6 h_7
        refine r_iinc C 112 7 (nI 1) [(7, .int (x7 + (nI 1))), (0, .ref (kad κ 151)), (1, .int (x1)), (2, .int (x2)), (3, .int (x3)), (4, .int (x4)), (5, .int (x5_5)), (6, .int (x6_6))] dX12_bestShare_109 rfl (by decide) (by decide) rfl rfl ?_
        refine r_goto C 9 dX12_bestShare_112 (by decide) ?_
        exact imp_sub [(0, .ref (kad κ 151)), (1, .int (x1)), (2, .int (x2)), (3, .int (x3)), (4, .int (x4)), (5, .int (x5_5)), (6, .int (x6_6)), (7, .int (x7 + (nI 1)))] [1, 2, 3, 4, 5, 6, 7, 0] rfl (ih (x5_5) (x6_6) (x7 + (nI 1)) h_7)
      · intro j_8 hj_8
        refine r_if_eq C 36 109 dX12_bestShare_33 (by decide) rfl (fun c_9 => ?_) (fun c_9 => ?_)
        · exact imp_sub [(0, .ref (kad κ 151)), (1, .int (x1)), (2, .int (x2)), (3, .int (x3)), (4, .int (x4)), (5, .int (x5)), (6, .int (x6)), (7, .int (x7))] [0, 1, 2, 3, 4, 5, 6, 7] rfl (hj_8 (x5) (x6) h_4)
        · refine r_aload_n C 37 0 rfl dX12_bestShare_36 rfl ?_
          refine r_iload_n C 38 2 rfl dX12_bestShare_37 rfl ?_
          refine r_iload_n C 39 3 rfl dX12_bestShare_38 rfl ?_
          refine r_iload C 41 4 rfl dX12_bestShare_39 rfl ?_
          refine r_cViI C 44 [] (ok_f_X12_isPass x2 x3 x4 h_4) dX12_bestShare_41 lvX12_431 kt_151 rfl rfl rfl (by decide) (Nat.le_of_ble_eq_true rfl) rfl rfl (Nat.le_of_ble_eq_true rfl) rfl rfl (fun v_10 h_11 => ?_)
          refine r_if_ne C 47 50 dX12_bestShare_44 (by decide) rfl (fun c_12 => ?_) (fun c_12 => ?_)
          · refine r_goto C 109 dX12_bestShare_47 (by decide) ?_
            exact imp_sub [(0, .ref (kad κ 151)), (1, .int (x1)), (2, .int (x2)), (3, .int (x3)), (4, .int (x4)), (5, .int (x5)), (6, .int (x6)), (7, .int (x7))] [0, 1, 2, 3, 4, 5, 6, 7] rfl (hj_8 (x5) (x6) h_11)
          · refine r_aload_n C 51 0 rfl dX12_bestShare_50 rfl ?_
            refine r_iload_n C 52 1 rfl dX12_bestShare_51 rfl ?_
            refine r_iload_n C 53 3 rfl dX12_bestShare_52 rfl ?_
            refine r_iload C 55 4 rfl dX12_bestShare_53 rfl ?_
            refine r_cVpI C 58 [] (ok_f_X12_farLive x1 x3 x4 h_11) dX12_bestShare_55 lvX12_418 kt_151 rfl rfl rfl (by decide) (Nat.le_of_ble_eq_true rfl) rfl rfl (Nat.le_of_ble_eq_true rfl) rfl rfl (fun v_13 => ?_)
            refine r_istore C 60 [(8, .int (v_13)), (0, .ref (kad κ 151)), (1, .int (x1)), (2, .int (x2)), (3, .int (x3)), (4, .int (x4)), (5, .int (x5)), (6, .int (x6)), (7, .int (x7))] dX12_bestShare_58 (by decide) rfl rfl ?_
            refine r_aload_n C 61 1 rfl dX12_bestShare_60 rfl ?_
            refine r_iload_n C 62 3 rfl dX12_bestShare_61 rfl ?_
            refine r_iload_n C 63 4 rfl dX12_bestShare_62 rfl ?_
            refine r_iload C 65 5 rfl dX12_bestShare_63 rfl ?_
            refine r_cVpI C 68 [] (ok_f_X12_farLive x2 x3 x4 h_11) dX12_bestShare_65 lvX12_418 kt_151 rfl rfl rfl (by decide) (Nat.le_of_ble_eq_true rfl) rfl rfl (Nat.le_of_ble_eq_true rfl) rfl rfl (fun v_14 => ?_)
            refine r_istore C 70 [(9, .int (v_14)), (8, .int (v_13)), (0, .ref (kad κ 151)), (1, .int (x1)), (2, .int (x2)), (3, .int (x3)), (4, .int (x4)), (5, .int (x5)), (6, .int (x6)), (7, .int (x7))] dX12_bestShare_68 (by decide) rfl rfl ?_
            refine r_iload C 72 1 rfl dX12_bestShare_70 rfl ?_
            refine r_iload C 74 0 rfl dX12_bestShare_72 rfl ?_
            refine imp_jn (fun (j_16 : Int32 → Option (Int32 × CH)) => ∀ (s_15 : Int32), Imp κ 84 [(0, .ref (kad κ 151)), (1, .int (x1)), (2, .int (x2)), (3, .int (x3)), (4, .int (x4)), (5, .int (x5)), (6, .int (x6)), (7, .int (x7))] [.int (s_15)] h_11 (j_16 s_15)) ?_ ?_
            · intro s_15
              refine r_istore C 86 [(10, .int (s_15)), (0, .ref (kad κ 151)), (1, .int (x1)), (2, .int (x2)), (3, .int (x3)), (4, .int (x4)), (5, .int (x5)), (6, .int (x6)), (7, .int (x7))] dX12_bestShare_84 (by decide) rfl rfl ?_
              refine r_iload C 88 6 rfl dX12_bestShare_86 rfl ?_
              refine imp_jn (fun (j_17 : Option (Int32 × CH)) =>  Imp κ 101 [(0, .ref (kad κ 151)), (1, .int (x1)), (2, .int (x2)), (3, .int (x3)), (4, .int (x4)), (7, .int (x7)), (10, .int (s_15))] [] h_11 (j_17)) ?_ ?_
              · refine r_iload C 103 5 rfl dX12_bestShare_101 rfl ?_
                refine r_istore C 105 [(5, .int (x7)), (0, .ref (kad κ 151)), (1, .int (x1)), (2, .int (x2)), (3, .int (x3)), (4, .int (x4)), (7, .int (x7)), (10, .int (s_15))] dX12_bestShare_103 (by decide) rfl rfl ?_
                refine r_iload C 107 7 rfl dX12_bestShare_105 rfl ?_
                refine r_istore C 109 [(6, .int (s_15)), (5, .int (x7)), (0, .ref (kad κ 151)), (1, .int (x1)), (2, .int (x2)), (3, .int (x3)), (4, .int (x4)), (7, .int (x7)), (10, .int (s_15))] dX12_bestShare_107 (by decide) rfl rfl ?_
                exact imp_sub [(0, .ref (kad κ 151)), (1, .int (x1)), (2, .int (x2)), (3, .int (x3)), (4, .int (x4)), (5, .int (x7)), (6, .int (s_15)), (7, .int (x7))] [2, 3, 4, 5, 6, 1, 0, 7] rfl (hj_8 (x7) (s_15) h_11)
              · intro j_17 hj_17
                refine r_if_lt C 91 101 dX12_bestShare_88 (by decide) rfl (fun c_18 => ?_) (fun c_18 => ?_)
                · exact imp_sub [(0, .ref (kad κ 151)), (1, .int (x1)), (2, .int (x2)), (3, .int (x3)), (4, .int (x4)), (7, .int (x7)), (10, .int (s_15))] [1, 2, 3, 4, 5, 8, 0] rfl (hj_17)
                · refine r_iload C 93 0 rfl dX12_bestShare_91 rfl ?_
                  refine r_iload C 95 7 rfl dX12_bestShare_93 rfl ?_
                  refine r_icmp_lt C 98 101 dX12_bestShare_95 (by decide) rfl (fun c_19 => ?_) (fun c_19 => ?_)
                  · exact imp_sub [(0, .ref (kad κ 151)), (1, .int (x1)), (2, .int (x2)), (3, .int (x3)), (4, .int (x4)), (7, .int (x7)), (10, .int (s_15))] [1, 2, 3, 4, 5, 8, 0] rfl (hj_17)
                  · refine r_goto C 109 dX12_bestShare_98 (by decide) ?_
                    exact imp_sub [(0, .ref (kad κ 151)), (1, .int (x1)), (2, .int (x2)), (3, .int (x3)), (4, .int (x4)), (5, .int (x5)), (6, .int (x6)), (7, .int (x7))] [1, 2, 3, 4, 5, 6, 7, 8] rfl (hj_8 (x5) (x6) h_11)
            · intro j_16 hj_16
              refine r_icmp_le C 77 82 dX12_bestShare_74 (by decide) rfl (fun c_20 => ?_) (fun c_20 => ?_)
              · refine r_iload C 79 1 rfl dX12_bestShare_77 rfl ?_
                refine r_goto C 84 dX12_bestShare_79 (by decide) ?_
                exact imp_sub [(0, .ref (kad κ 151)), (1, .int (x1)), (2, .int (x2)), (3, .int (x3)), (4, .int (x4)), (5, .int (x5)), (6, .int (x6)), (7, .int (x7))] [2, 3, 4, 5, 6, 7, 8, 9] rfl (hj_16 (v_13))
              · refine r_iload C 84 0 rfl dX12_bestShare_82 rfl ?_
                exact imp_sub [(0, .ref (kad κ 151)), (1, .int (x1)), (2, .int (x2)), (3, .int (x3)), (4, .int (x4)), (5, .int (x5)), (6, .int (x6)), (7, .int (x7))] [2, 3, 4, 5, 6, 7, 8, 9] rfl (hj_16 (v_14))
set_option maxHeartbeats 4000000 in
set_option maxRecDepth 100000 in
theorem imp_f_X12_bestShare {κ : Kx (Int32 × CH)} (C : Cx κ cX12_bestShare RX12 11 6 (40 * 6) []) (x1 : Int32) (x2 : Int32) (x3 : Int32) (x4 : Int32)  (h : CH) (Rr : Rt κ (some .int) (fun (q : Int32 × CH) (_ : Nat → Nat) => some (Value.int q.1)) (fun (q : (Int32 × CH)) => q.2)) : Imp κ 0 [(0, .ref (kad κ 151)), (1, .int (x1)), (2, .int (x2)), (3, .int (x3)), (4, .int (x4))] [] h (f_X12_bestShare x1 x2 x3 x4 h) := by
  unfold f_X12_bestShare
  refine r_iconst C 1 (-1) (by decide) dX12_bestShare_0 rfl ?_
  refine r_istore C 3 [(5, .int ((-1))), (0, .ref (kad κ 151)), (1, .int (x1)), (2, .int (x2)), (3, .int (x3)), (4, .int (x4))] dX12_bestShare_1 (by decide) rfl rfl ?_
  refine r_iconst C 4 (nI 0) (by decide) dX12_bestShare_3 rfl ?_
  refine r_istore C 6 [(6, .int ((nI 0))), (5, .int ((-1))), (0, .ref (kad κ 151)), (1, .int (x1)), (2, .int (x2)), (3, .int (x3)), (4, .int (x4))] dX12_bestShare_4 (by decide) rfl rfl ?_
  refine r_iconst C 7 (nI 0) (by decide) dX12_bestShare_6 rfl ?_
  refine r_istore C 9 [(7, .int ((nI 0))), (6, .int ((nI 0))), (5, .int ((-1))), (0, .ref (kad κ 151)), (1, .int (x1)), (2, .int (x2)), (3, .int (x3)), (4, .int (x4))] dX12_bestShare_7 (by decide) rfl rfl ?_
  refine imp_sub [(0, .ref (kad κ 151)), (1, .int (x1)), (2, .int (x2)), (3, .int (x3)), (4, .int (x4)), (5, .int ((-1))), (6, .int ((nI 0))), (7, .int ((nI 0)))] [3, 4, 5, 6, 7, 2, 1, 0] rfl ?_
  refine imp_f_X12_bestShare_L9 C (x1) (x2) (x3) (x4) Rr FU ((-1)) ((nI 0)) ((nI 0)) h
set_option maxHeartbeats 4000000 in
theorem ok_f_X12_bestShare (x1 : Int32) (x2 : Int32) (x3 : Int32) (x4 : Int32)  (h : CH) : ∀ q, f_X12_bestShare x1 x2 x3 x4 h = some q → MG yX12_bestShare cX12_bestShare 11 (some .int) [] 6 (fun ad => [.ref (ad 151), .int x1, .int x2, .int x3, .int x4]) h ((fun (q : Int32 × CH) (_ : Nat → Nat) => some (Value.int q.1)) q) ((fun (q : (Int32 × CH)) => q.2) q) := mg_of RX12 (by decide) rfl (fun _ => Nat.le_of_ble_eq_true rfl) (fun κ C Rr => imp_f_X12_bestShare C x1 x2 x3 x4 h Rr)
set_option maxHeartbeats 4000000 in
set_option maxRecDepth 100000 in
theorem imp_f_X12_able {κ : Kx (Int32 × CH)} (C : Cx κ cX12_able RX12 5 7 (40 * 7) []) (x1 : Int32) (x2 : Int32) (x3 : Int32) (x4 : Int32)  (h : CH) (Rr : Rt κ (some .int) (fun (q : Int32 × CH) (_ : Nat → Nat) => some (Value.int q.1)) (fun (q : (Int32 × CH)) => q.2)) : Imp κ 0 [(0, .ref (kad κ 151)), (1, .int (x1)), (2, .int (x2)), (3, .int (x3)), (4, .int (x4))] [] h (f_X12_able x1 x2 x3 x4 h) := by
  unfold f_X12_able
  refine r_aload_n C 1 0 rfl dX12_able_0 rfl ?_
  refine r_iload_n C 2 1 rfl dX12_able_1 rfl ?_
  refine r_cVpI C 5 [] (ok_f_X12_isFace x1 h) dX12_able_2 lvX12_424 kt_151 rfl rfl rfl (by decide) (Nat.le_of_ble_eq_true rfl) rfl rfl (Nat.le_of_ble_eq_true rfl) rfl rfl (fun v_1 => ?_)
  refine r_if_eq C 8 42 dX12_able_5 (by decide) rfl (fun c_2 => ?_) (fun c_2 => ?_)
  · refine r_iconst C 43 (-1) (by decide) dX12_able_42 rfl ?_
    exact r_iret C Rr dX12_able_43 (fun _ => rfl) rfl
  · refine r_aload_n C 9 0 rfl dX12_able_8 rfl ?_
    refine r_iload_n C 10 2 rfl dX12_able_9 rfl ?_
    refine r_cVpI C 13 [] (ok_f_X12_isFace x2 h) dX12_able_10 lvX12_424 kt_151 rfl rfl rfl (by decide) (Nat.le_of_ble_eq_true rfl) rfl rfl (Nat.le_of_ble_eq_true rfl) rfl rfl (fun v_3 => ?_)
    refine r_if_eq C 16 42 dX12_able_13 (by decide) rfl (fun c_4 => ?_) (fun c_4 => ?_)
    · refine r_iconst C 43 (-1) (by decide) dX12_able_42 rfl ?_
      exact r_iret C Rr dX12_able_43 (fun _ => rfl) rfl
    · refine r_iload_n C 17 1 rfl dX12_able_16 rfl ?_
      refine r_iload_n C 18 2 rfl dX12_able_17 rfl ?_
      refine r_icmp_ge C 21 42 dX12_able_18 (by decide) rfl (fun c_5 => ?_) (fun c_5 => ?_)
      · refine r_iload_n C 22 3 rfl dX12_able_21 rfl ?_
        refine r_iload C 24 4 rfl dX12_able_22 rfl ?_
        refine r_cSpI C 27 [] (ok_f_X12_isWhen x3 x4 h) dX12_able_24 lsX12_434 rfl (by decide) (Nat.le_of_ble_eq_true rfl) rfl rfl (Nat.le_of_ble_eq_true rfl) rfl rfl (fun v_6 => ?_)
        refine r_if_eq C 30 42 dX12_able_27 (by decide) rfl (fun c_7 => ?_) (fun c_7 => ?_)
        · refine r_iconst C 43 (-1) (by decide) dX12_able_42 rfl ?_
          exact r_iret C Rr dX12_able_43 (fun _ => rfl) rfl
        · refine r_aload_n C 31 0 rfl dX12_able_30 rfl ?_
          refine r_iload_n C 32 1 rfl dX12_able_31 rfl ?_
          refine r_iload_n C 33 2 rfl dX12_able_32 rfl ?_
          refine r_iload_n C 34 3 rfl dX12_able_33 rfl ?_
          refine r_iload C 36 4 rfl dX12_able_34 rfl ?_
          refine r_cViI C 39 [] (ok_f_X12_bestShare x1 x2 x3 x4 h) dX12_able_36 lvX12_448 kt_151 rfl rfl rfl (by decide) (Nat.le_of_ble_eq_true rfl) rfl rfl (Nat.le_of_ble_eq_true rfl) rfl rfl (fun v_8 h_9 => ?_)
          refine r_goto C 43 dX12_able_39 (by decide) ?_
          exact r_iret C Rr dX12_able_43 (fun _ => rfl) rfl
      · refine r_iconst C 43 (-1) (by decide) dX12_able_42 rfl ?_
        exact r_iret C Rr dX12_able_43 (fun _ => rfl) rfl
set_option maxHeartbeats 4000000 in
theorem ok_f_X12_able (x1 : Int32) (x2 : Int32) (x3 : Int32) (x4 : Int32)  (h : CH) : ∀ q, f_X12_able x1 x2 x3 x4 h = some q → MG yX12_able cX12_able 5 (some .int) [] 7 (fun ad => [.ref (ad 151), .int x1, .int x2, .int x3, .int x4]) h ((fun (q : Int32 × CH) (_ : Nat → Nat) => some (Value.int q.1)) q) ((fun (q : (Int32 × CH)) => q.2) q) := mg_of RX12 (by decide) rfl (fun _ => Nat.le_of_ble_eq_true rfl) (fun κ C Rr => imp_f_X12_able C x1 x2 x3 x4 h Rr)
set_option maxHeartbeats 4000000 in
set_option maxRecDepth 100000 in
theorem imp_f_X12_pairs_L30 {κ : Kx (Int32 × CH)} (C : Cx κ cX12_pairs RX12 6 7 (40 * 7) []) (x1 : Int32) (x2 : Int32) (x4 : Int32)  (k66 : Int32 → CH → Option (Int32 × CH)) (hk66 : ∀ (x3_5 : Int32) (h_6 : CH), Imp κ 66 [(0, .ref (kad κ 151)), (1, .int (x1)), (2, .int (x2)), (3, .int (x3_5)), (4, .int (x4))] [] h_6 (k66 x3_5 h_6)) (Rr : Rt κ (some .int) (fun (q : Int32 × CH) (_ : Nat → Nat) => some (Value.int q.1)) (fun (q : (Int32 × CH)) => q.2)) : ∀ (n : Nat) (x3 : Int32) (x5 : Int32) (h : CH), Imp κ 30 [(0, .ref (kad κ 151)), (1, .int (x1)), (2, .int (x2)), (3, .int (x3)), (4, .int (x4)), (5, .int (x5))] [] h (f_X12_pairs_L30 x1 x2 x4 k66 n x3 x5 h) := by
  intro n
  induction n with
  | zero => intros; exact imp_none
  | succ n ih =>
    intro x3 x5 h
    rw [f_X12_pairs_L30]
    refine r_iload C 32 5 rfl dX12_pairs_30 rfl ?_
    refine r_aload_n C 33 0 rfl dX12_pairs_32 rfl ?_
    refine r_cVpI C 36 [.int (x5)] (ok_f_X12_many h) dX12_pairs_33 lvX12_399 kt_151 rfl rfl rfl (by decide) (Nat.le_of_ble_eq_true rfl) rfl rfl (Nat.le_of_ble_eq_true rfl) rfl rfl (fun v_7 => ?_)
    refine r_icmp_ge C 39 66 dX12_pairs_36 (by decide) rfl (fun c_8 => ?_) (fun c_8 => ?_)
    · refine r_iload_n C 40 3 rfl dX12_pairs_39 rfl ?_
      refine r_aload_n C 41 0 rfl dX12_pairs_40 rfl ?_
      refine r_iload C 43 4 rfl dX12_pairs_41 rfl ?_
      refine r_iload C 45 5 rfl dX12_pairs_43 rfl ?_
      refine r_iload_n C 46 1 rfl dX12_pairs_45 rfl ?_
      refine r_iload_n C 47 2 rfl dX12_pairs_46 rfl ?_
      refine r_cViI C 50 [.int (x3)] (ok_f_X12_bestShare x4 x5 x1 x2 h) dX12_pairs_47 lvX12_448 kt_151 rfl rfl rfl (by decide) (Nat.le_of_ble_eq_true rfl) rfl rfl (Nat.le_of_ble_eq_true rfl) rfl rfl (fun v_9 h_10 => ?_)
      refine imp_jn (fun (j_13 : Int32 → Int32 → Option (Int32 × CH)) => ∀ (s_11 : Int32) (s_12 : Int32), Imp κ 58 [(0, .ref (kad κ 151)), (1, .int (x1)), (2, .int (x2)), (4, .int (x4)), (5, .int (x5))] [.int (s_11), .int (s_12)] h_10 (j_13 s_11 s_12)) ?_ ?_
      · intro s_11 s_12
        refine r_iadd C 59 dX12_pairs_58 rfl ?_
        refine r_istore_n C 60 3 [(3, .int ((s_12) + (s_11))), (0, .ref (kad κ 151)), (1, .int (x1)), (2, .int (x2)), (4, .int (x4)), (5, .int (x5))] dX12_pairs_59 rfl (by decide) rfl rfl ?_
        refine r_iinc C 63 5 (nI 1) [(5, .int (x5 + (nI 1))), (3, .int ((s_12) + (s_11))), (0, .ref (kad κ 151)), (1, .int (x1)), (2, .int (x2)), (4, .int (x4))] dX12_pairs_60 rfl (by decide) (by decide) rfl rfl ?_
        refine r_goto C 30 dX12_pairs_63 (by decide) ?_
        exact imp_sub [(0, .ref (kad κ 151)), (1, .int (x1)), (2, .int (x2)), (3, .int ((s_12) + (s_11))), (4, .int (x4)), (5, .int (x5 + (nI 1)))] [2, 3, 4, 1, 5, 0] rfl (ih ((s_12) + (s_11)) (x5 + (nI 1)) h_10)
      · intro j_13 hj_13
        refine r_if_lt C 53 57 dX12_pairs_50 (by decide) rfl (fun c_14 => ?_) (fun c_14 => ?_)
        · refine r_iconst C 58 (nI 0) (by decide) dX12_pairs_57 rfl ?_
          exact imp_sub [(0, .ref (kad κ 151)), (1, .int (x1)), (2, .int (x2)), (4, .int (x4)), (5, .int (x5))] [0, 1, 2, 4, 5] rfl (hj_13 ((nI 0)) (x3))
        · refine r_iconst C 54 (nI 1) (by decide) dX12_pairs_53 rfl ?_
          refine r_goto C 58 dX12_pairs_54 (by decide) ?_
          exact imp_sub [(0, .ref (kad κ 151)), (1, .int (x1)), (2, .int (x2)), (4, .int (x4)), (5, .int (x5))] [0, 1, 2, 4, 5] rfl (hj_13 ((nI 1)) (x3))
    · exact imp_sub [(0, .ref (kad κ 151)), (1, .int (x1)), (2, .int (x2)), (3, .int (x3)), (4, .int (x4))] [0, 1, 2, 3, 4] rfl (hk66 (x3) h)
set_option maxHeartbeats 4000000 in
set_option maxRecDepth 100000 in
theorem imp_f_X12_pairs_L15 {κ : Kx (Int32 × CH)} (C : Cx κ cX12_pairs RX12 6 7 (40 * 7) []) (x1 : Int32) (x2 : Int32)    (Rr : Rt κ (some .int) (fun (q : Int32 × CH) (_ : Nat → Nat) => some (Value.int q.1)) (fun (q : (Int32 × CH)) => q.2)) : ∀ (n : Nat) (x3 : Int32) (x4 : Int32) (h : CH), Imp κ 15 [(0, .ref (kad κ 151)), (1, .int (x1)), (2, .int (x2)), (3, .int (x3)), (4, .int (x4))] [] h (f_X12_pairs_L15 x1 x2 n x3 x4 h) := by
  intro n
  induction n with
  | zero => intros; exact imp_none
  | succ n ih =>
    intro x3 x4 h
    rw [f_X12_pairs_L15]
    refine r_iload C 17 4 rfl dX12_pairs_15 rfl ?_
    refine r_aload_n C 18 0 rfl dX12_pairs_17 rfl ?_
    refine r_cVpI C 21 [.int (x4)] (ok_f_X12_many h) dX12_pairs_18 lvX12_399 kt_151 rfl rfl rfl (by decide) (Nat.le_of_ble_eq_true rfl) rfl rfl (Nat.le_of_ble_eq_true rfl) rfl rfl (fun v_3 => ?_)
    refine r_icmp_ge C 24 72 dX12_pairs_21 (by decide) rfl (fun c_4 => ?_) (fun c_4 => ?_)
    · refine r_iload C 26 4 rfl dX12_pairs_24 rfl ?_
      refine r_iconst C 27 (nI 1) (by decide) dX12_pairs_26 rfl ?_
      refine r_iadd C 28 dX12_pairs_27 rfl ?_
      refine r_istore C 30 [(5, .int ((x4) + ((nI 1)))), (0, .ref (kad κ 151)), (1, .int (x1)), (2, .int (x2)), (3, .int (x3)), (4, .int (x4))] dX12_pairs_28 (by decide) rfl rfl ?_
      refine imp_sub [(0, .ref (kad κ 151)), (1, .int (x1)), (2, .int (x2)), (3, .int (x3)), (4, .int (x4)), (5, .int ((x4) + ((nI 1))))] [1, 2, 3, 4, 5, 0] rfl ?_
      refine imp_f_X12_pairs_L30 C (x1) (x2) (x4) _ ?_ Rr FU (x3) ((x4) + ((nI 1))) h
      · intro x3_5 h_6
        refine r_iinc C 69 4 (nI 1) [(4, .int (x4 + (nI 1))), (0, .ref (kad κ 151)), (1, .int (x1)), (2, .int (x2)), (3, .int (x3_5))] dX12_pairs_66 rfl (by decide) (by decide) rfl rfl ?_
        refine r_goto C 15 dX12_pairs_69 (by decide) ?_
        exact imp_sub [(0, .ref (kad κ 151)), (1, .int (x1)), (2, .int (x2)), (3, .int (x3_5)), (4, .int (x4 + (nI 1)))] [1, 2, 3, 4, 0] rfl (ih (x3_5) (x4 + (nI 1)) h_6)
    · refine r_iload_n C 73 3 rfl dX12_pairs_72 rfl ?_
      exact r_iret C Rr dX12_pairs_73 (fun _ => rfl) rfl
set_option maxHeartbeats 4000000 in
set_option maxRecDepth 100000 in
theorem imp_f_X12_pairs {κ : Kx (Int32 × CH)} (C : Cx κ cX12_pairs RX12 6 7 (40 * 7) []) (x1 : Int32) (x2 : Int32)  (h : CH) (Rr : Rt κ (some .int) (fun (q : Int32 × CH) (_ : Nat → Nat) => some (Value.int q.1)) (fun (q : (Int32 × CH)) => q.2)) : Imp κ 0 [(0, .ref (kad κ 151)), (1, .int (x1)), (2, .int (x2))] [] h (f_X12_pairs x1 x2 h) := by
  unfold f_X12_pairs
  refine r_iload_n C 1 1 rfl dX12_pairs_0 rfl ?_
  refine r_iload_n C 2 2 rfl dX12_pairs_1 rfl ?_
  refine r_cSpI C 5 [] (ok_f_X12_isWhen x1 x2 h) dX12_pairs_2 lsX12_434 rfl (by decide) (Nat.le_of_ble_eq_true rfl) rfl rfl (Nat.le_of_ble_eq_true rfl) rfl rfl (fun v_1 => ?_)
  refine r_if_ne C 8 10 dX12_pairs_5 (by decide) rfl (fun c_2 => ?_) (fun c_2 => ?_)
  · refine r_iconst C 9 (-1) (by decide) dX12_pairs_8 rfl ?_
    exact r_iret C Rr dX12_pairs_9 (fun _ => rfl) rfl
  · refine r_iconst C 11 (nI 0) (by decide) dX12_pairs_10 rfl ?_
    refine r_istore_n C 12 3 [(3, .int ((nI 0))), (0, .ref (kad κ 151)), (1, .int (x1)), (2, .int (x2))] dX12_pairs_11 rfl (by decide) rfl rfl ?_
    refine r_iconst C 13 (nI 0) (by decide) dX12_pairs_12 rfl ?_
    refine r_istore C 15 [(4, .int ((nI 0))), (3, .int ((nI 0))), (0, .ref (kad κ 151)), (1, .int (x1)), (2, .int (x2))] dX12_pairs_13 (by decide) rfl rfl ?_
    refine imp_sub [(0, .ref (kad κ 151)), (1, .int (x1)), (2, .int (x2)), (3, .int ((nI 0))), (4, .int ((nI 0)))] [2, 3, 4, 1, 0] rfl ?_
    refine imp_f_X12_pairs_L15 C (x1) (x2) Rr FU ((nI 0)) ((nI 0)) h
set_option maxHeartbeats 4000000 in
theorem ok_f_X12_pairs (x1 : Int32) (x2 : Int32)  (h : CH) : ∀ q, f_X12_pairs x1 x2 h = some q → MG yX12_pairs cX12_pairs 6 (some .int) [] 7 (fun ad => [.ref (ad 151), .int x1, .int x2]) h ((fun (q : Int32 × CH) (_ : Nat → Nat) => some (Value.int q.1)) q) ((fun (q : (Int32 × CH)) => q.2) q) := mg_of RX12 (by decide) rfl (fun _ => Nat.le_of_ble_eq_true rfl) (fun κ C Rr => imp_f_X12_pairs C x1 x2 h Rr)
set_option maxHeartbeats 4000000 in
set_option maxRecDepth 100000 in
theorem imp_f_X12_pair_L36 {κ : Kx (Int32 × CH)} (C : Cx κ cX12_pair RX12 7 7 (40 * 7) []) (x2 : Int32) (x3 : Int32) (x5 : Int32)  (k66 : Int32 → CH → Option (Int32 × CH)) (k84 : Int32 → CH → Option (Int32 × CH)) (hk66 : ∀ (x6_6 : Int32) (h_7 : CH), Imp κ 66 [(5, .int (x5)), (6, .int (x6_6))] [] h_7 (k66 x6_6 h_7)) (hk84 : ∀ (x4_8 : Int32) (h_9 : CH), Imp κ 84 [(0, .ref (kad κ 151)), (2, .int (x2)), (3, .int (x3)), (4, .int (x4_8)), (5, .int (x5))] [] h_9 (k84 x4_8 h_9)) (Rr : Rt κ (some .int) (fun (q : Int32 × CH) (_ : Nat → Nat) => some (Value.int q.1)) (fun (q : (Int32 × CH)) => q.2)) : ∀ (n : Nat) (x4 : Int32) (x6 : Int32) (h : CH), Imp κ 36 [(0, .ref (kad κ 151)), (2, .int (x2)), (3, .int (x3)), (4, .int (x4)), (5, .int (x5)), (6, .int (x6))] [] h (f_X12_pair_L36 x2 x3 x5 k66 k84 n x4 x6 h) := by
  intro n
  induction n with
  | zero => intros; exact imp_none
  | succ n ih =>
    intro x4 x6 h
    rw [f_X12_pair_L36]
    refine r_iload C 38 5 rfl dX12_pair_36 rfl ?_
    refine r_aload_n C 39 0 rfl dX12_pair_38 rfl ?_
    refine r_cVpI C 42 [.int (x6)] (ok_f_X12_many h) dX12_pair_39 lvX12_399 kt_151 rfl rfl rfl (by decide) (Nat.le_of_ble_eq_true rfl) rfl rfl (Nat.le_of_ble_eq_true rfl) rfl rfl (fun v_10 => ?_)
    refine r_icmp_ge C 45 84 dX12_pair_42 (by decide) rfl (fun c_11 => ?_) (fun c_11 => ?_)
    · refine r_aload_n C 46 0 rfl dX12_pair_45 rfl ?_
      refine r_iload C 48 4 rfl dX12_pair_46 rfl ?_
      refine r_iload C 50 5 rfl dX12_pair_48 rfl ?_
      refine r_iload_n C 51 1 rfl dX12_pair_50 rfl ?_
      refine r_iload_n C 52 2 rfl dX12_pair_51 rfl ?_
      refine r_cViI C 55 [] (ok_f_X12_bestShare x5 x6 x2 x3 h) dX12_pair_52 lvX12_448 kt_151 rfl rfl rfl (by decide) (Nat.le_of_ble_eq_true rfl) rfl rfl (Nat.le_of_ble_eq_true rfl) rfl rfl (fun v_12 h_13 => ?_)
      refine imp_jn (fun (j_15 : Int32 → Option (Int32 × CH)) => ∀ (x4_14 : Int32), Imp κ 78 [(0, .ref (kad κ 151)), (2, .int (x2)), (3, .int (x3)), (4, .int (x4_14)), (5, .int (x5)), (6, .int (x6))] [] h_13 (j_15 x4_14)) ?_ ?_
      · intro x4_14
        refine r_iinc C 81 5 (nI 1) [(6, .int (x6 + (nI 1))), (0, .ref (kad κ 151)), (2, .int (x2)), (3, .int (x3)), (4, .int (x4_14)), (5, .int (x5))] dX12_pair_78 rfl (by decide) (by decide) rfl rfl ?_
        refine r_goto C 36 dX12_pair_81 (by decide) ?_
        exact imp_sub [(0, .ref (kad κ 151)), (2, .int (x2)), (3, .int (x3)), (4, .int (x4_14)), (5, .int (x5)), (6, .int (x6 + (nI 1)))] [1, 2, 3, 4, 5, 0] rfl (ih (x4_14) (x6 + (nI 1)) h_13)
      · intro j_15 hj_15
        refine r_if_ge C 58 61 dX12_pair_55 (by decide) rfl (fun c_16 => ?_) (fun c_16 => ?_)
        · refine r_goto C 78 dX12_pair_58 (by decide) ?_
          exact imp_sub [(0, .ref (kad κ 151)), (2, .int (x2)), (3, .int (x3)), (4, .int (x4)), (5, .int (x5)), (6, .int (x6))] [0, 1, 2, 3, 4, 5] rfl (hj_15 (x4))
        · refine r_iload C 63 3 rfl dX12_pair_61 rfl ?_
          refine r_if_ne C 66 75 dX12_pair_63 (by decide) rfl (fun c_17 => ?_) (fun c_17 => ?_)
          · exact imp_sub [(5, .int (x5)), (6, .int (x6))] [4, 5] rfl (hk66 (x6) h_13)
          · refine r_iinc C 78 3 (-1) [(4, .int (x4 + (-1))), (0, .ref (kad κ 151)), (2, .int (x2)), (3, .int (x3)), (5, .int (x5)), (6, .int (x6))] dX12_pair_75 rfl (by decide) (by decide) rfl rfl ?_
            exact imp_sub [(0, .ref (kad κ 151)), (2, .int (x2)), (3, .int (x3)), (4, .int (x4 + (-1))), (5, .int (x5)), (6, .int (x6))] [1, 2, 3, 0, 4, 5] rfl (hj_15 (x4 + (-1)))
    · exact imp_sub [(0, .ref (kad κ 151)), (2, .int (x2)), (3, .int (x3)), (4, .int (x4)), (5, .int (x5))] [0, 1, 2, 3, 4] rfl (hk84 (x4) h)
set_option maxHeartbeats 4000000 in
set_option maxRecDepth 100000 in
theorem imp_f_X12_pair_L16 {κ : Kx (Int32 × CH)} (C : Cx κ cX12_pair RX12 7 7 (40 * 7) []) (x2 : Int32) (x3 : Int32)    (Rr : Rt κ (some .int) (fun (q : Int32 × CH) (_ : Nat → Nat) => some (Value.int q.1)) (fun (q : (Int32 × CH)) => q.2)) : ∀ (n : Nat) (x4 : Int32) (x5 : Int32) (h : CH), Imp κ 16 [(0, .ref (kad κ 151)), (2, .int (x2)), (3, .int (x3)), (4, .int (x4)), (5, .int (x5))] [] h (f_X12_pair_L16 x2 x3 n x4 x5 h) := by
  intro n
  induction n with
  | zero => intros; exact imp_none
  | succ n ih =>
    intro x4 x5 h
    rw [f_X12_pair_L16]
    refine r_iload C 18 4 rfl dX12_pair_16 rfl ?_
    refine r_aload_n C 19 0 rfl dX12_pair_18 rfl ?_
    refine r_cVpI C 22 [.int (x5)] (ok_f_X12_many h) dX12_pair_19 lvX12_399 kt_151 rfl rfl rfl (by decide) (Nat.le_of_ble_eq_true rfl) rfl rfl (Nat.le_of_ble_eq_true rfl) rfl rfl (fun v_3 => ?_)
    refine r_icmp_ge C 25 90 dX12_pair_22 (by decide) rfl (fun c_4 => ?_) (fun c_4 => ?_)
    · refine r_iload C 27 3 rfl dX12_pair_25 rfl ?_
      refine r_if_lt C 30 90 dX12_pair_27 (by decide) rfl (fun c_5 => ?_) (fun c_5 => ?_)
      · refine r_iconst C 91 (-1) (by decide) dX12_pair_90 rfl ?_
        exact r_iret C Rr dX12_pair_91 (fun _ => rfl) rfl
      · refine r_iload C 32 4 rfl dX12_pair_30 rfl ?_
        refine r_iconst C 33 (nI 1) (by decide) dX12_pair_32 rfl ?_
        refine r_iadd C 34 dX12_pair_33 rfl ?_
        refine r_istore C 36 [(6, .int ((x5) + ((nI 1)))), (0, .ref (kad κ 151)), (2, .int (x2)), (3, .int (x3)), (4, .int (x4)), (5, .int (x5))] dX12_pair_34 (by decide) rfl rfl ?_
        refine imp_sub [(0, .ref (kad κ 151)), (2, .int (x2)), (3, .int (x3)), (4, .int (x4)), (5, .int (x5)), (6, .int ((x5) + ((nI 1))))] [1, 2, 3, 4, 5, 0] rfl ?_
        refine imp_f_X12_pair_L36 C (x2) (x3) (x5) _ _ ?_ ?_ Rr FU (x4) ((x5) + ((nI 1))) h
        · intro x6_6 h_7
          refine r_bipush C 68 (nI 100) (by decide) dX12_pair_66 rfl ?_
          refine r_iload C 70 0 rfl dX12_pair_68 rfl ?_
          refine r_imul C 71 dX12_pair_70 rfl ?_
          refine r_iload C 73 1 rfl dX12_pair_71 rfl ?_
          refine r_iadd C 74 dX12_pair_73 rfl ?_
          exact r_iret C Rr dX12_pair_74 (fun _ => rfl) rfl
        · intro x4_8 h_9
          refine r_iinc C 87 4 (nI 1) [(5, .int (x5 + (nI 1))), (0, .ref (kad κ 151)), (2, .int (x2)), (3, .int (x3)), (4, .int (x4_8))] dX12_pair_84 rfl (by decide) (by decide) rfl rfl ?_
          refine r_goto C 16 dX12_pair_87 (by decide) ?_
          exact imp_sub [(0, .ref (kad κ 151)), (2, .int (x2)), (3, .int (x3)), (4, .int (x4_8)), (5, .int (x5 + (nI 1)))] [1, 2, 3, 4, 0] rfl (ih (x4_8) (x5 + (nI 1)) h_9)
    · refine r_iconst C 91 (-1) (by decide) dX12_pair_90 rfl ?_
      exact r_iret C Rr dX12_pair_91 (fun _ => rfl) rfl
set_option maxHeartbeats 4000000 in
set_option maxRecDepth 100000 in
theorem imp_f_X12_pair {κ : Kx (Int32 × CH)} (C : Cx κ cX12_pair RX12 7 7 (40 * 7) []) (x1 : Int32) (x2 : Int32) (x3 : Int32)  (h : CH) (Rr : Rt κ (some .int) (fun (q : Int32 × CH) (_ : Nat → Nat) => some (Value.int q.1)) (fun (q : (Int32 × CH)) => q.2)) : Imp κ 0 [(0, .ref (kad κ 151)), (1, .int (x1)), (2, .int (x2)), (3, .int (x3))] [] h (f_X12_pair x1 x2 x3 h) := by
  unfold f_X12_pair
  refine r_iload_n C 1 2 rfl dX12_pair_0 rfl ?_
  refine r_iload_n C 2 3 rfl dX12_pair_1 rfl ?_
  refine r_cSpI C 5 [] (ok_f_X12_isWhen x2 x3 h) dX12_pair_2 lsX12_434 rfl (by decide) (Nat.le_of_ble_eq_true rfl) rfl rfl (Nat.le_of_ble_eq_true rfl) rfl rfl (fun v_1 => ?_)
  refine r_if_ne C 8 10 dX12_pair_5 (by decide) rfl (fun c_2 => ?_) (fun c_2 => ?_)
  · refine r_iconst C 9 (-1) (by decide) dX12_pair_8 rfl ?_
    exact r_iret C Rr dX12_pair_9 (fun _ => rfl) rfl
  · refine r_iload_n C 11 1 rfl dX12_pair_10 rfl ?_
    refine r_istore C 13 [(4, .int (x1)), (0, .ref (kad κ 151)), (1, .int (x1)), (2, .int (x2)), (3, .int (x3))] dX12_pair_11 (by decide) rfl rfl ?_
    refine r_iconst C 14 (nI 0) (by decide) dX12_pair_13 rfl ?_
    refine r_istore C 16 [(5, .int ((nI 0))), (4, .int (x1)), (0, .ref (kad κ 151)), (1, .int (x1)), (2, .int (x2)), (3, .int (x3))] dX12_pair_14 (by decide) rfl rfl ?_
    refine imp_sub [(0, .ref (kad κ 151)), (2, .int (x2)), (3, .int (x3)), (4, .int (x1)), (5, .int ((nI 0)))] [2, 4, 5, 1, 0] rfl ?_
    refine imp_f_X12_pair_L16 C (x2) (x3) Rr FU (x1) ((nI 0)) h
set_option maxHeartbeats 4000000 in
theorem ok_f_X12_pair (x1 : Int32) (x2 : Int32) (x3 : Int32)  (h : CH) : ∀ q, f_X12_pair x1 x2 x3 h = some q → MG yX12_pair cX12_pair 7 (some .int) [] 7 (fun ad => [.ref (ad 151), .int x1, .int x2, .int x3]) h ((fun (q : Int32 × CH) (_ : Nat → Nat) => some (Value.int q.1)) q) ((fun (q : (Int32 × CH)) => q.2) q) := mg_of RX12 (by decide) rfl (fun _ => Nat.le_of_ble_eq_true rfl) (fun κ C Rr => imp_f_X12_pair C x1 x2 x3 h Rr)
set_option maxHeartbeats 4000000 in
set_option maxRecDepth 100000 in
theorem imp_f_X12_gate_L102 {κ : Kx (Int32 × CH)} (C : Cx κ cX12_gate RX12 8 7 (40 * 7) []) (x1 : Int32) (x2 : Int32) (x3 : Int32) (x4 : Int32) (x6 : Int32)  (k152 : Int32 → CH → Option (Int32 × CH)) (hk152 : ∀ (x5_16 : Int32) (h_17 : CH), Imp κ 152 [(0, .ref (kad κ 151)), (1, .int (x1)), (2, .int (x2)), (3, .int (x3)), (4, .int (x4)), (5, .int (x5_16)), (6, .int (x6))] [] h_17 (k152 x5_16 h_17)) (Rr : Rt κ (some .int) (fun (q : Int32 × CH) (_ : Nat → Nat) => some (Value.int q.1)) (fun (q : (Int32 × CH)) => q.2)) : ∀ (n : Nat) (x5 : Int32) (x7 : Int32) (h : CH), Imp κ 102 [(0, .ref (kad κ 151)), (1, .int (x1)), (2, .int (x2)), (3, .int (x3)), (4, .int (x4)), (5, .int (x5)), (6, .int (x6)), (7, .int (x7))] [] h (f_X12_gate_L102 x1 x2 x3 x4 x6 k152 n x5 x7 h) := by
  intro n
  induction n with
  | zero => intros; exact imp_none
  | succ n ih =>
    intro x5 x7 h
    rw [f_X12_gate_L102]
    refine r_iload C 104 7 rfl dX12_gate_102 rfl ?_
    refine r_aload_n C 105 0 rfl dX12_gate_104 rfl ?_
    refine r_cVpI C 108 [.int (x7)] (ok_f_X12_many h) dX12_gate_105 lvX12_399 kt_151 rfl rfl rfl (by decide) (Nat.le_of_ble_eq_true rfl) rfl rfl (Nat.le_of_ble_eq_true rfl) rfl rfl (fun v_18 => ?_)
    refine r_icmp_ge C 111 152 dX12_gate_108 (by decide) rfl (fun c_19 => ?_) (fun c_19 => ?_)
    · refine r_iload_n C 112 1 rfl dX12_gate_111 rfl ?_
      refine r_if_ne C 115 152 dX12_gate_112 (by decide) rfl (fun c_20 => ?_) (fun c_20 => ?_)
      · refine r_iload C 117 5 rfl dX12_gate_115 rfl ?_
        refine r_iload C 119 7 rfl dX12_gate_117 rfl ?_
        refine r_iload C 121 6 rfl dX12_gate_119 rfl ?_
        refine imp_jn (fun (j_24 : Int32 → Int32 → CH → Option (Int32 × CH)) => ∀ (s_21 : Int32) (s_22 : Int32) (h_23 : CH), Imp κ 143 [(0, .ref (kad κ 151)), (1, .int (x1)), (2, .int (x2)), (3, .int (x3)), (4, .int (x4)), (6, .int (x6)), (7, .int (x7))] [.int (s_21), .int (s_22)] h_23 (j_24 s_21 s_22 h_23)) ?_ ?_
        · intro s_21 s_22 h_23
          refine r_iadd C 144 dX12_gate_143 rfl ?_
          refine r_istore C 146 [(5, .int ((s_22) + (s_21))), (0, .ref (kad κ 151)), (1, .int (x1)), (2, .int (x2)), (3, .int (x3)), (4, .int (x4)), (6, .int (x6)), (7, .int (x7))] dX12_gate_144 (by decide) rfl rfl ?_
          refine r_iinc C 149 7 (nI 1) [(7, .int (x7 + (nI 1))), (5, .int ((s_22) + (s_21))), (0, .ref (kad κ 151)), (1, .int (x1)), (2, .int (x2)), (3, .int (x3)), (4, .int (x4)), (6, .int (x6))] dX12_gate_146 rfl (by decide) (by decide) rfl rfl ?_
          refine r_goto C 102 dX12_gate_149 (by decide) ?_
          exact imp_sub [(0, .ref (kad κ 151)), (1, .int (x1)), (2, .int (x2)), (3, .int (x3)), (4, .int (x4)), (5, .int ((s_22) + (s_21))), (6, .int (x6)), (7, .int (x7 + (nI 1)))] [2, 3, 4, 5, 6, 1, 7, 0] rfl (ih ((s_22) + (s_21)) (x7 + (nI 1)) h_23)
        · intro j_24 hj_24
          refine imp_jn (fun (j_27 : Int32 → CH → Option (Int32 × CH)) => ∀ (s_25 : Int32) (h_26 : CH), Imp κ 142 [(0, .ref (kad κ 151)), (1, .int (x1)), (2, .int (x2)), (3, .int (x3)), (4, .int (x4)), (6, .int (x6)), (7, .int (x7))] [.int (s_25)] h_26 (j_27 s_25 h_26)) ?_ ?_
          · intro s_25 h_26
            refine r_iconst C 143 (nI 0) (by decide) dX12_gate_142 rfl ?_
            exact imp_sub [(0, .ref (kad κ 151)), (1, .int (x1)), (2, .int (x2)), (3, .int (x3)), (4, .int (x4)), (6, .int (x6)), (7, .int (x7))] [0, 1, 2, 3, 4, 5, 6] rfl (hj_24 ((nI 0)) (s_25) h_26)
          · intro j_27 hj_27
            refine r_icmp_eq C 124 142 dX12_gate_121 (by decide) rfl (fun c_28 => ?_) (fun c_28 => ?_)
            · exact imp_sub [(0, .ref (kad κ 151)), (1, .int (x1)), (2, .int (x2)), (3, .int (x3)), (4, .int (x4)), (6, .int (x6)), (7, .int (x7))] [0, 1, 2, 3, 4, 6, 7] rfl (hj_27 (x5) h)
            · refine r_aload_n C 125 0 rfl dX12_gate_124 rfl ?_
              refine r_iload C 127 6 rfl dX12_gate_125 rfl ?_
              refine r_iload C 129 7 rfl dX12_gate_127 rfl ?_
              refine r_iload_n C 130 3 rfl dX12_gate_129 rfl ?_
              refine r_iload C 132 4 rfl dX12_gate_130 rfl ?_
              refine r_cViI C 135 [.int (x5)] (ok_f_X12_isPassOf x6 x7 x3 x4 h) dX12_gate_132 lvX12_438 kt_151 rfl rfl rfl (by decide) (Nat.le_of_ble_eq_true rfl) rfl rfl (Nat.le_of_ble_eq_true rfl) rfl rfl (fun v_29 h_30 => ?_)
              refine r_if_eq C 138 142 dX12_gate_135 (by decide) rfl (fun c_31 => ?_) (fun c_31 => ?_)
              · exact imp_sub [(0, .ref (kad κ 151)), (1, .int (x1)), (2, .int (x2)), (3, .int (x3)), (4, .int (x4)), (6, .int (x6)), (7, .int (x7))] [0, 1, 2, 3, 4, 6, 7] rfl (hj_27 (x5) h_30)
              · refine r_iconst C 139 (nI 1) (by decide) dX12_gate_138 rfl ?_
                refine r_goto C 143 dX12_gate_139 (by decide) ?_
                exact imp_sub [(0, .ref (kad κ 151)), (1, .int (x1)), (2, .int (x2)), (3, .int (x3)), (4, .int (x4)), (6, .int (x6)), (7, .int (x7))] [0, 1, 2, 3, 4, 6, 7] rfl (hj_24 ((nI 1)) (x5) h_30)
      · exact imp_sub [(0, .ref (kad κ 151)), (1, .int (x1)), (2, .int (x2)), (3, .int (x3)), (4, .int (x4)), (5, .int (x5)), (6, .int (x6))] [0, 1, 2, 3, 4, 5, 6] rfl (hk152 (x5) h)
    · exact imp_sub [(0, .ref (kad κ 151)), (1, .int (x1)), (2, .int (x2)), (3, .int (x3)), (4, .int (x4)), (5, .int (x5)), (6, .int (x6))] [0, 1, 2, 3, 4, 5, 6] rfl (hk152 (x5) h)
set_option maxHeartbeats 4000000 in
set_option maxRecDepth 100000 in
theorem imp_f_X12_gate_L35 {κ : Kx (Int32 × CH)} (C : Cx κ cX12_gate RX12 8 7 (40 * 7) []) (x1 : Int32) (x2 : Int32) (x3 : Int32) (x4 : Int32)    (Rr : Rt κ (some .int) (fun (q : Int32 × CH) (_ : Nat → Nat) => some (Value.int q.1)) (fun (q : (Int32 × CH)) => q.2)) : ∀ (n : Nat) (x5 : Int32) (x6 : Int32) (h : CH), Imp κ 35 [(0, .ref (kad κ 151)), (1, .int (x1)), (2, .int (x2)), (3, .int (x3)), (4, .int (x4)), (5, .int (x5)), (6, .int (x6))] [] h (f_X12_gate_L35 x1 x2 x3 x4 n x5 x6 h) := by
  intro n
  induction n with
  | zero => intros; exact imp_none
  | succ n ih =>
    intro x5 x6 h
    rw [f_X12_gate_L35]
    refine r_iload C 37 6 rfl dX12_gate_35 rfl ?_
    refine r_aload_n C 38 0 rfl dX12_gate_37 rfl ?_
    refine r_cVpI C 41 [.int (x6)] (ok_f_X12_many h) dX12_gate_38 lvX12_399 kt_151 rfl rfl rfl (by decide) (Nat.le_of_ble_eq_true rfl) rfl rfl (Nat.le_of_ble_eq_true rfl) rfl rfl (fun v_7 => ?_)
    refine r_icmp_ge C 44 158 dX12_gate_41 (by decide) rfl (fun c_8 => ?_) (fun c_8 => ?_)
    · refine r_iload_n C 45 2 rfl dX12_gate_44 rfl ?_
      refine imp_jn (fun (j_11 : Int32 → CH → Option (Int32 × CH)) => ∀ (x5_9 : Int32) (h_10 : CH), Imp κ 152 [(0, .ref (kad κ 151)), (1, .int (x1)), (2, .int (x2)), (3, .int (x3)), (4, .int (x4)), (5, .int (x5_9)), (6, .int (x6))] [] h_10 (j_11 x5_9 h_10)) ?_ ?_
      · intro x5_9 h_10
        refine r_iinc C 155 6 (nI 1) [(6, .int (x6 + (nI 1))), (0, .ref (kad κ 151)), (1, .int (x1)), (2, .int (x2)), (3, .int (x3)), (4, .int (x4)), (5, .int (x5_9))] dX12_gate_152 rfl (by decide) (by decide) rfl rfl ?_
        refine r_goto C 35 dX12_gate_155 (by decide) ?_
        exact imp_sub [(0, .ref (kad κ 151)), (1, .int (x1)), (2, .int (x2)), (3, .int (x3)), (4, .int (x4)), (5, .int (x5_9)), (6, .int (x6 + (nI 1)))] [1, 2, 3, 4, 5, 6, 0] rfl (ih (x5_9) (x6 + (nI 1)) h_10)
      · intro j_11 hj_11
        refine imp_jn (fun (j_12 : Option (Int32 × CH)) =>  Imp κ 70 [(0, .ref (kad κ 151)), (1, .int (x1)), (2, .int (x2)), (3, .int (x3)), (4, .int (x4)), (5, .int (x5)), (6, .int (x6))] [] h (j_12)) ?_ ?_
        · refine r_iload_n C 71 1 rfl dX12_gate_70 rfl ?_
          refine r_iconst C 72 (nI 1) (by decide) dX12_gate_71 rfl ?_
          refine imp_jn (fun (j_15 : Int32 → CH → Option (Int32 × CH)) => ∀ (x5_13 : Int32) (h_14 : CH), Imp κ 99 [(0, .ref (kad κ 151)), (1, .int (x1)), (2, .int (x2)), (3, .int (x3)), (4, .int (x4)), (5, .int (x5_13)), (6, .int (x6))] [] h_14 (j_15 x5_13 h_14)) ?_ ?_
          · intro x5_13 h_14
            refine r_iconst C 100 (nI 0) (by decide) dX12_gate_99 rfl ?_
            refine r_istore C 102 [(7, .int ((nI 0))), (0, .ref (kad κ 151)), (1, .int (x1)), (2, .int (x2)), (3, .int (x3)), (4, .int (x4)), (5, .int (x5_13)), (6, .int (x6))] dX12_gate_100 (by decide) rfl rfl ?_
            refine imp_sub [(0, .ref (kad κ 151)), (1, .int (x1)), (2, .int (x2)), (3, .int (x3)), (4, .int (x4)), (5, .int (x5_13)), (6, .int (x6)), (7, .int ((nI 0)))] [1, 2, 3, 4, 5, 6, 7, 0] rfl ?_
            refine imp_f_X12_gate_L102 C (x1) (x2) (x3) (x4) (x6) _ ?_ Rr FU (x5_13) ((nI 0)) h_14
            · intro x5_16 h_17
              exact imp_sub [(0, .ref (kad κ 151)), (1, .int (x1)), (2, .int (x2)), (3, .int (x3)), (4, .int (x4)), (5, .int (x5_16)), (6, .int (x6))] [0, 1, 2, 3, 4, 5, 6] rfl (hj_11 (x5_16) h_17)
          · intro j_15 hj_15
            refine r_icmp_ne C 75 99 dX12_gate_72 (by decide) rfl (fun c_32 => ?_) (fun c_32 => ?_)
            · refine r_iload C 77 5 rfl dX12_gate_75 rfl ?_
              refine r_aload_n C 78 0 rfl dX12_gate_77 rfl ?_
              refine r_iload C 80 6 rfl dX12_gate_78 rfl ?_
              refine r_iload C 82 6 rfl dX12_gate_80 rfl ?_
              refine r_iload_n C 83 3 rfl dX12_gate_82 rfl ?_
              refine r_iload C 85 4 rfl dX12_gate_83 rfl ?_
              refine r_cViI C 88 [.int (x5)] (ok_f_X12_isPassOf x6 x6 x3 x4 h) dX12_gate_85 lvX12_438 kt_151 rfl rfl rfl (by decide) (Nat.le_of_ble_eq_true rfl) rfl rfl (Nat.le_of_ble_eq_true rfl) rfl rfl (fun v_33 h_34 => ?_)
              refine imp_jn (fun (j_37 : Int32 → Int32 → Option (Int32 × CH)) => ∀ (s_35 : Int32) (s_36 : Int32), Imp κ 96 [(0, .ref (kad κ 151)), (1, .int (x1)), (2, .int (x2)), (3, .int (x3)), (4, .int (x4)), (6, .int (x6))] [.int (s_35), .int (s_36)] h_34 (j_37 s_35 s_36)) ?_ ?_
              · intro s_35 s_36
                refine r_iadd C 97 dX12_gate_96 rfl ?_
                refine r_istore C 99 [(5, .int ((s_36) + (s_35))), (0, .ref (kad κ 151)), (1, .int (x1)), (2, .int (x2)), (3, .int (x3)), (4, .int (x4)), (6, .int (x6))] dX12_gate_97 (by decide) rfl rfl ?_
                exact imp_sub [(0, .ref (kad κ 151)), (1, .int (x1)), (2, .int (x2)), (3, .int (x3)), (4, .int (x4)), (5, .int ((s_36) + (s_35))), (6, .int (x6))] [1, 2, 3, 4, 5, 0, 6] rfl (hj_15 ((s_36) + (s_35)) h_34)
              · intro j_37 hj_37
                refine r_if_eq C 91 95 dX12_gate_88 (by decide) rfl (fun c_38 => ?_) (fun c_38 => ?_)
                · refine r_iconst C 96 (nI 1) (by decide) dX12_gate_95 rfl ?_
                  exact imp_sub [(0, .ref (kad κ 151)), (1, .int (x1)), (2, .int (x2)), (3, .int (x3)), (4, .int (x4)), (6, .int (x6))] [0, 1, 2, 3, 4, 6] rfl (hj_37 ((nI 1)) (x5))
                · refine r_iconst C 92 (nI 0) (by decide) dX12_gate_91 rfl ?_
                  refine r_goto C 96 dX12_gate_92 (by decide) ?_
                  exact imp_sub [(0, .ref (kad κ 151)), (1, .int (x1)), (2, .int (x2)), (3, .int (x3)), (4, .int (x4)), (6, .int (x6))] [0, 1, 2, 3, 4, 6] rfl (hj_37 ((nI 0)) (x5))
            · exact imp_sub [(0, .ref (kad κ 151)), (1, .int (x1)), (2, .int (x2)), (3, .int (x3)), (4, .int (x4)), (5, .int (x5)), (6, .int (x6))] [0, 1, 2, 3, 4, 5, 6] rfl (hj_15 (x5) h)
        · intro j_12 hj_12
          refine r_if_lt C 48 70 dX12_gate_45 (by decide) rfl (fun c_39 => ?_) (fun c_39 => ?_)
          · exact imp_sub [(0, .ref (kad κ 151)), (1, .int (x1)), (2, .int (x2)), (3, .int (x3)), (4, .int (x4)), (5, .int (x5)), (6, .int (x6))] [0, 1, 2, 3, 4, 5, 6] rfl (hj_12)
          · refine r_aload_n C 49 0 rfl dX12_gate_48 rfl ?_
            refine r_getR C 52 dX12_gate_49 flX12_33 kt_151 rfl rf_151_16 rfl ?_
            refine r_bipush C 54 (nI 16) (by decide) dX12_gate_52 rfl ?_
            refine r_aload_n C 55 0 rfl dX12_gate_54 rfl ?_
            refine r_getI C 58 dX12_gate_55 flX12_269 kt_151 rfl rfl ?_
            refine r_imul C 59 dX12_gate_58 rfl ?_
            refine r_iload C 61 6 rfl dX12_gate_59 rfl ?_
            refine r_iadd C 62 dX12_gate_61 rfl ?_
            refine r_iald C 63 dX12_gate_62 kt_158 rfl rfl (fun v_40 => ?_)
            refine r_iload_n C 64 2 rfl dX12_gate_63 rfl ?_
            refine r_icmp_eq C 67 70 dX12_gate_64 (by decide) rfl (fun c_41 => ?_) (fun c_41 => ?_)
            · exact imp_sub [(0, .ref (kad κ 151)), (1, .int (x1)), (2, .int (x2)), (3, .int (x3)), (4, .int (x4)), (5, .int (x5)), (6, .int (x6))] [0, 1, 2, 3, 4, 5, 6] rfl (hj_12)
            · refine r_goto C 152 dX12_gate_67 (by decide) ?_
              exact imp_sub [(0, .ref (kad κ 151)), (1, .int (x1)), (2, .int (x2)), (3, .int (x3)), (4, .int (x4)), (5, .int (x5)), (6, .int (x6))] [0, 1, 2, 3, 4, 5, 6] rfl (hj_11 (x5) h)
    · refine r_iload C 160 5 rfl dX12_gate_158 rfl ?_
      exact r_iret C Rr dX12_gate_160 (fun _ => rfl) rfl
set_option maxHeartbeats 4000000 in
set_option maxRecDepth 100000 in
theorem imp_f_X12_gate {κ : Kx (Int32 × CH)} (C : Cx κ cX12_gate RX12 8 7 (40 * 7) []) (x1 : Int32) (x2 : Int32) (x3 : Int32) (x4 : Int32)  (h : CH) (Rr : Rt κ (some .int) (fun (q : Int32 × CH) (_ : Nat → Nat) => some (Value.int q.1)) (fun (q : (Int32 × CH)) => q.2)) : Imp κ 0 [(0, .ref (kad κ 151)), (1, .int (x1)), (2, .int (x2)), (3, .int (x3)), (4, .int (x4))] [] h (f_X12_gate x1 x2 x3 x4 h) := by
  unfold f_X12_gate
  refine r_iload_n C 1 1 rfl dX12_gate_0 rfl ?_
  refine r_iconst C 2 (nI 0) (by decide) dX12_gate_1 rfl ?_
  refine r_iconst C 3 (nI 1) (by decide) dX12_gate_2 rfl ?_
  refine r_cSpI C 6 [] (ok_f_X12_isIn x1 ((nI 0)) ((nI 1)) h) dX12_gate_3 lsX12_402 rfl (by decide) (Nat.le_of_ble_eq_true rfl) rfl rfl (Nat.le_of_ble_eq_true rfl) rfl rfl (fun v_1 => ?_)
  refine r_if_eq C 9 27 dX12_gate_6 (by decide) rfl (fun c_2 => ?_) (fun c_2 => ?_)
  · refine r_iconst C 28 (-1) (by decide) dX12_gate_27 rfl ?_
    exact r_iret C Rr dX12_gate_28 (fun _ => rfl) rfl
  · refine r_iload_n C 10 2 rfl dX12_gate_9 rfl ?_
    refine r_iconst C 11 (-1) (by decide) dX12_gate_10 rfl ?_
    refine r_iconst C 12 (nI 3) (by decide) dX12_gate_11 rfl ?_
    refine r_cSpI C 15 [] (ok_f_X12_isIn x2 ((-1)) ((nI 3)) h) dX12_gate_12 lsX12_402 rfl (by decide) (Nat.le_of_ble_eq_true rfl) rfl rfl (Nat.le_of_ble_eq_true rfl) rfl rfl (fun v_3 => ?_)
    refine r_if_eq C 18 27 dX12_gate_15 (by decide) rfl (fun c_4 => ?_) (fun c_4 => ?_)
    · refine r_iconst C 28 (-1) (by decide) dX12_gate_27 rfl ?_
      exact r_iret C Rr dX12_gate_28 (fun _ => rfl) rfl
    · refine r_iload_n C 19 3 rfl dX12_gate_18 rfl ?_
      refine r_iload C 21 4 rfl dX12_gate_19 rfl ?_
      refine r_cSpI C 24 [] (ok_f_X12_isWhen x3 x4 h) dX12_gate_21 lsX12_434 rfl (by decide) (Nat.le_of_ble_eq_true rfl) rfl rfl (Nat.le_of_ble_eq_true rfl) rfl rfl (fun v_5 => ?_)
      refine r_if_ne C 27 29 dX12_gate_24 (by decide) rfl (fun c_6 => ?_) (fun c_6 => ?_)
      · refine r_iconst C 28 (-1) (by decide) dX12_gate_27 rfl ?_
        exact r_iret C Rr dX12_gate_28 (fun _ => rfl) rfl
      · refine r_iconst C 30 (nI 0) (by decide) dX12_gate_29 rfl ?_
        refine r_istore C 32 [(5, .int ((nI 0))), (0, .ref (kad κ 151)), (1, .int (x1)), (2, .int (x2)), (3, .int (x3)), (4, .int (x4))] dX12_gate_30 (by decide) rfl rfl ?_
        refine r_iconst C 33 (nI 0) (by decide) dX12_gate_32 rfl ?_
        refine r_istore C 35 [(6, .int ((nI 0))), (5, .int ((nI 0))), (0, .ref (kad κ 151)), (1, .int (x1)), (2, .int (x2)), (3, .int (x3)), (4, .int (x4))] dX12_gate_33 (by decide) rfl rfl ?_
        refine imp_sub [(0, .ref (kad κ 151)), (1, .int (x1)), (2, .int (x2)), (3, .int (x3)), (4, .int (x4)), (5, .int ((nI 0))), (6, .int ((nI 0)))] [2, 3, 4, 5, 6, 1, 0] rfl ?_
        refine imp_f_X12_gate_L35 C (x1) (x2) (x3) (x4) Rr FU ((nI 0)) ((nI 0)) h
set_option maxHeartbeats 4000000 in
theorem ok_f_X12_gate (x1 : Int32) (x2 : Int32) (x3 : Int32) (x4 : Int32)  (h : CH) : ∀ q, f_X12_gate x1 x2 x3 x4 h = some q → MG yX12_gate cX12_gate 8 (some .int) [] 7 (fun ad => [.ref (ad 151), .int x1, .int x2, .int x3, .int x4]) h ((fun (q : Int32 × CH) (_ : Nat → Nat) => some (Value.int q.1)) q) ((fun (q : (Int32 × CH)) => q.2) q) := mg_of RX12 (by decide) rfl (fun _ => Nat.le_of_ble_eq_true rfl) (fun κ C Rr => imp_f_X12_gate C x1 x2 x3 x4 h Rr)
set_option maxHeartbeats 4000000 in
set_option maxRecDepth 100000 in
theorem imp_f_X12_twins_L27 {κ : Kx (Int32 × CH)} (C : Cx κ cX12_twins RX12 6 7 (40 * 7) []) (x1 : Int32) (x2 : Int32) (x4 : Int32)  (k74 : Int32 → CH → Option (Int32 × CH)) (hk74 : ∀ (x3_5 : Int32) (h_6 : CH), Imp κ 74 [(0, .ref (kad κ 151)), (1, .int (x1)), (2, .int (x2)), (3, .int (x3_5)), (4, .int (x4))] [] h_6 (k74 x3_5 h_6)) (Rr : Rt κ (some .int) (fun (q : Int32 × CH) (_ : Nat → Nat) => some (Value.int q.1)) (fun (q : (Int32 × CH)) => q.2)) : ∀ (n : Nat) (x3 : Int32) (x5 : Int32) (h : CH), Imp κ 27 [(0, .ref (kad κ 151)), (1, .int (x1)), (2, .int (x2)), (3, .int (x3)), (4, .int (x4)), (5, .int (x5))] [] h (f_X12_twins_L27 x1 x2 x4 k74 n x3 x5 h) := by
  intro n
  induction n with
  | zero => intros; exact imp_none
  | succ n ih =>
    intro x3 x5 h
    rw [f_X12_twins_L27]
    refine r_iload C 29 5 rfl dX12_twins_27 rfl ?_
    refine r_iload C 31 4 rfl dX12_twins_29 rfl ?_
    refine r_icmp_ge C 34 74 dX12_twins_31 (by decide) rfl (fun c_7 => ?_) (fun c_7 => ?_)
    · refine r_iload_n C 35 3 rfl dX12_twins_34 rfl ?_
      refine r_aload_n C 36 0 rfl dX12_twins_35 rfl ?_
      refine r_iload C 38 4 rfl dX12_twins_36 rfl ?_
      refine r_iload C 40 5 rfl dX12_twins_38 rfl ?_
      refine r_iload_n C 41 1 rfl dX12_twins_40 rfl ?_
      refine r_iload_n C 42 2 rfl dX12_twins_41 rfl ?_
      refine r_cViI C 45 [.int (x3)] (ok_f_X12_isPassOf x4 x5 x1 x2 h) dX12_twins_42 lvX12_438 kt_151 rfl rfl rfl (by decide) (Nat.le_of_ble_eq_true rfl) rfl rfl (Nat.le_of_ble_eq_true rfl) rfl rfl (fun v_8 h_9 => ?_)
      refine imp_jn (fun (j_13 : Int32 → Int32 → CH → Option (Int32 × CH)) => ∀ (s_10 : Int32) (s_11 : Int32) (h_12 : CH), Imp κ 66 [(0, .ref (kad κ 151)), (1, .int (x1)), (2, .int (x2)), (4, .int (x4)), (5, .int (x5))] [.int (s_10), .int (s_11)] h_12 (j_13 s_10 s_11 h_12)) ?_ ?_
      · intro s_10 s_11 h_12
        refine r_iadd C 67 dX12_twins_66 rfl ?_
        refine r_istore_n C 68 3 [(3, .int ((s_11) + (s_10))), (0, .ref (kad κ 151)), (1, .int (x1)), (2, .int (x2)), (4, .int (x4)), (5, .int (x5))] dX12_twins_67 rfl (by decide) rfl rfl ?_
        refine r_iinc C 71 5 (nI 1) [(5, .int (x5 + (nI 1))), (3, .int ((s_11) + (s_10))), (0, .ref (kad κ 151)), (1, .int (x1)), (2, .int (x2)), (4, .int (x4))] dX12_twins_68 rfl (by decide) (by decide) rfl rfl ?_
        refine r_goto C 27 dX12_twins_71 (by decide) ?_
        exact imp_sub [(0, .ref (kad κ 151)), (1, .int (x1)), (2, .int (x2)), (3, .int ((s_11) + (s_10))), (4, .int (x4)), (5, .int (x5 + (nI 1)))] [2, 3, 4, 1, 5, 0] rfl (ih ((s_11) + (s_10)) (x5 + (nI 1)) h_12)
      · intro j_13 hj_13
        refine imp_jn (fun (j_16 : Int32 → CH → Option (Int32 × CH)) => ∀ (s_14 : Int32) (h_15 : CH), Imp κ 65 [(0, .ref (kad κ 151)), (1, .int (x1)), (2, .int (x2)), (4, .int (x4)), (5, .int (x5))] [.int (s_14)] h_15 (j_16 s_14 h_15)) ?_ ?_
        · intro s_14 h_15
          refine r_iconst C 66 (nI 0) (by decide) dX12_twins_65 rfl ?_
          exact imp_sub [(0, .ref (kad κ 151)), (1, .int (x1)), (2, .int (x2)), (4, .int (x4)), (5, .int (x5))] [0, 1, 2, 3, 4] rfl (hj_13 ((nI 0)) (s_14) h_15)
        · intro j_16 hj_16
          refine r_if_eq C 48 65 dX12_twins_45 (by decide) rfl (fun c_17 => ?_) (fun c_17 => ?_)
          · exact imp_sub [(0, .ref (kad κ 151)), (1, .int (x1)), (2, .int (x2)), (4, .int (x4)), (5, .int (x5))] [0, 1, 2, 4, 5] rfl (hj_16 (x3) h_9)
          · refine r_aload_n C 49 0 rfl dX12_twins_48 rfl ?_
            refine r_iload C 51 5 rfl dX12_twins_49 rfl ?_
            refine r_iload C 53 4 rfl dX12_twins_51 rfl ?_
            refine r_iload_n C 54 1 rfl dX12_twins_53 rfl ?_
            refine r_iload_n C 55 2 rfl dX12_twins_54 rfl ?_
            refine r_cViI C 58 [.int (x3)] (ok_f_X12_isPassOf x5 x4 x1 x2 h_9) dX12_twins_55 lvX12_438 kt_151 rfl rfl rfl (by decide) (Nat.le_of_ble_eq_true rfl) rfl rfl (Nat.le_of_ble_eq_true rfl) rfl rfl (fun v_18 h_19 => ?_)
            refine r_if_eq C 61 65 dX12_twins_58 (by decide) rfl (fun c_20 => ?_) (fun c_20 => ?_)
            · exact imp_sub [(0, .ref (kad κ 151)), (1, .int (x1)), (2, .int (x2)), (4, .int (x4)), (5, .int (x5))] [0, 1, 2, 4, 5] rfl (hj_16 (x3) h_19)
            · refine r_iconst C 62 (nI 1) (by decide) dX12_twins_61 rfl ?_
              refine r_goto C 66 dX12_twins_62 (by decide) ?_
              exact imp_sub [(0, .ref (kad κ 151)), (1, .int (x1)), (2, .int (x2)), (4, .int (x4)), (5, .int (x5))] [0, 1, 2, 4, 5] rfl (hj_13 ((nI 1)) (x3) h_19)
    · exact imp_sub [(0, .ref (kad κ 151)), (1, .int (x1)), (2, .int (x2)), (3, .int (x3)), (4, .int (x4))] [0, 1, 2, 3, 4] rfl (hk74 (x3) h)
set_option maxHeartbeats 4000000 in
set_option maxRecDepth 100000 in
theorem imp_f_X12_twins_L15 {κ : Kx (Int32 × CH)} (C : Cx κ cX12_twins RX12 6 7 (40 * 7) []) (x1 : Int32) (x2 : Int32)    (Rr : Rt κ (some .int) (fun (q : Int32 × CH) (_ : Nat → Nat) => some (Value.int q.1)) (fun (q : (Int32 × CH)) => q.2)) : ∀ (n : Nat) (x3 : Int32) (x4 : Int32) (h : CH), Imp κ 15 [(0, .ref (kad κ 151)), (1, .int (x1)), (2, .int (x2)), (3, .int (x3)), (4, .int (x4))] [] h (f_X12_twins_L15 x1 x2 n x3 x4 h) := by
  intro n
  induction n with
  | zero => intros; exact imp_none
  | succ n ih =>
    intro x3 x4 h
    rw [f_X12_twins_L15]
    refine r_iload C 17 4 rfl dX12_twins_15 rfl ?_
    refine r_aload_n C 18 0 rfl dX12_twins_17 rfl ?_
    refine r_cVpI C 21 [.int (x4)] (ok_f_X12_many h) dX12_twins_18 lvX12_399 kt_151 rfl rfl rfl (by decide) (Nat.le_of_ble_eq_true rfl) rfl rfl (Nat.le_of_ble_eq_true rfl) rfl rfl (fun v_3 => ?_)
    refine r_icmp_ge C 24 80 dX12_twins_21 (by decide) rfl (fun c_4 => ?_) (fun c_4 => ?_)
    · refine r_iconst C 25 (nI 0) (by decide) dX12_twins_24 rfl ?_
      refine r_istore C 27 [(5, .int ((nI 0))), (0, .ref (kad κ 151)), (1, .int (x1)), (2, .int (x2)), (3, .int (x3)), (4, .int (x4))] dX12_twins_25 (by decide) rfl rfl ?_
      refine imp_sub [(0, .ref (kad κ 151)), (1, .int (x1)), (2, .int (x2)), (3, .int (x3)), (4, .int (x4)), (5, .int ((nI 0)))] [1, 2, 3, 4, 5, 0] rfl ?_
      refine imp_f_X12_twins_L27 C (x1) (x2) (x4) _ ?_ Rr FU (x3) ((nI 0)) h
      · intro x3_5 h_6
        refine r_iinc C 77 4 (nI 1) [(4, .int (x4 + (nI 1))), (0, .ref (kad κ 151)), (1, .int (x1)), (2, .int (x2)), (3, .int (x3_5))] dX12_twins_74 rfl (by decide) (by decide) rfl rfl ?_
        refine r_goto C 15 dX12_twins_77 (by decide) ?_
        exact imp_sub [(0, .ref (kad κ 151)), (1, .int (x1)), (2, .int (x2)), (3, .int (x3_5)), (4, .int (x4 + (nI 1)))] [1, 2, 3, 4, 0] rfl (ih (x3_5) (x4 + (nI 1)) h_6)
    · refine r_iload_n C 81 3 rfl dX12_twins_80 rfl ?_
      exact r_iret C Rr dX12_twins_81 (fun _ => rfl) rfl
set_option maxHeartbeats 4000000 in
set_option maxRecDepth 100000 in
theorem imp_f_X12_twins {κ : Kx (Int32 × CH)} (C : Cx κ cX12_twins RX12 6 7 (40 * 7) []) (x1 : Int32) (x2 : Int32)  (h : CH) (Rr : Rt κ (some .int) (fun (q : Int32 × CH) (_ : Nat → Nat) => some (Value.int q.1)) (fun (q : (Int32 × CH)) => q.2)) : Imp κ 0 [(0, .ref (kad κ 151)), (1, .int (x1)), (2, .int (x2))] [] h (f_X12_twins x1 x2 h) := by
  unfold f_X12_twins
  refine r_iload_n C 1 1 rfl dX12_twins_0 rfl ?_
  refine r_iload_n C 2 2 rfl dX12_twins_1 rfl ?_
  refine r_cSpI C 5 [] (ok_f_X12_isWhen x1 x2 h) dX12_twins_2 lsX12_434 rfl (by decide) (Nat.le_of_ble_eq_true rfl) rfl rfl (Nat.le_of_ble_eq_true rfl) rfl rfl (fun v_1 => ?_)
  refine r_if_ne C 8 10 dX12_twins_5 (by decide) rfl (fun c_2 => ?_) (fun c_2 => ?_)
  · refine r_iconst C 9 (-1) (by decide) dX12_twins_8 rfl ?_
    exact r_iret C Rr dX12_twins_9 (fun _ => rfl) rfl
  · refine r_iconst C 11 (nI 0) (by decide) dX12_twins_10 rfl ?_
    refine r_istore_n C 12 3 [(3, .int ((nI 0))), (0, .ref (kad κ 151)), (1, .int (x1)), (2, .int (x2))] dX12_twins_11 rfl (by decide) rfl rfl ?_
    refine r_iconst C 13 (nI 0) (by decide) dX12_twins_12 rfl ?_
    refine r_istore C 15 [(4, .int ((nI 0))), (3, .int ((nI 0))), (0, .ref (kad κ 151)), (1, .int (x1)), (2, .int (x2))] dX12_twins_13 (by decide) rfl rfl ?_
    refine imp_sub [(0, .ref (kad κ 151)), (1, .int (x1)), (2, .int (x2)), (3, .int ((nI 0))), (4, .int ((nI 0)))] [2, 3, 4, 1, 0] rfl ?_
    refine imp_f_X12_twins_L15 C (x1) (x2) Rr FU ((nI 0)) ((nI 0)) h
set_option maxHeartbeats 4000000 in
theorem ok_f_X12_twins (x1 : Int32) (x2 : Int32)  (h : CH) : ∀ q, f_X12_twins x1 x2 h = some q → MG yX12_twins cX12_twins 6 (some .int) [] 7 (fun ad => [.ref (ad 151), .int x1, .int x2]) h ((fun (q : Int32 × CH) (_ : Nat → Nat) => some (Value.int q.1)) q) ((fun (q : (Int32 × CH)) => q.2) q) := mg_of RX12 (by decide) rfl (fun _ => Nat.le_of_ble_eq_true rfl) (fun κ C Rr => imp_f_X12_twins C x1 x2 h Rr)
set_option maxHeartbeats 4000000 in
set_option maxRecDepth 100000 in
theorem imp_f_X12_until_L20 {κ : Kx (Int32 × CH)} (C : Cx κ cX12_until RX12 4 7 (40 * 7) []) (x1 : Int32) (x2 : Int32)    (Rr : Rt κ (some .int) (fun (q : Int32 × CH) (_ : Nat → Nat) => some (Value.int q.1)) (fun (q : (Int32 × CH)) => q.2)) : ∀ (n : Nat) (x3 : Int32) (h : CH), Imp κ 20 [(0, .ref (kad κ 151)), (1, .int (x1)), (2, .int (x2)), (3, .int (x3))] [] h (f_X12_until_L20 x1 x2 n x3 h) := by
  intro n
  induction n with
  | zero => intros; exact imp_none
  | succ n ih =>
    intro x3 h
    rw [f_X12_until_L20]
    refine r_iload_n C 21 3 rfl dX12_until_20 rfl ?_
    refine r_bipush C 23 (nI 60) (by decide) dX12_until_21 rfl ?_
    refine r_icmp_gt C 26 45 dX12_until_23 (by decide) rfl (fun c_5 => ?_) (fun c_5 => ?_)
    · refine r_iconst C 46 (-1) (by decide) dX12_until_45 rfl ?_
      exact r_iret C Rr dX12_until_46 (fun _ => rfl) rfl
    · refine r_aload_n C 27 0 rfl dX12_until_26 rfl ?_
      refine r_iload_n C 28 1 rfl dX12_until_27 rfl ?_
      refine r_iload_n C 29 1 rfl dX12_until_28 rfl ?_
      refine r_iload_n C 30 3 rfl dX12_until_29 rfl ?_
      refine r_iload_n C 31 2 rfl dX12_until_30 rfl ?_
      refine r_cViI C 34 [] (ok_f_X12_isPassOf x1 x1 x3 x2 h) dX12_until_31 lvX12_438 kt_151 rfl rfl rfl (by decide) (Nat.le_of_ble_eq_true rfl) rfl rfl (Nat.le_of_ble_eq_true rfl) rfl rfl (fun v_6 h_7 => ?_)
      refine r_if_ne C 37 39 dX12_until_34 (by decide) rfl (fun c_8 => ?_) (fun c_8 => ?_)
      · refine r_iload_n C 38 3 rfl dX12_until_37 rfl ?_
        exact r_iret C Rr dX12_until_38 (fun _ => rfl) rfl
      · refine r_iinc C 42 3 (nI 1) [(3, .int (x3 + (nI 1))), (0, .ref (kad κ 151)), (1, .int (x1)), (2, .int (x2))] dX12_until_39 rfl (by decide) (by decide) rfl rfl ?_
        refine r_goto C 20 dX12_until_42 (by decide) ?_
        exact imp_sub [(0, .ref (kad κ 151)), (1, .int (x1)), (2, .int (x2)), (3, .int (x3 + (nI 1)))] [1, 2, 3, 0] rfl (ih (x3 + (nI 1)) h_7)
set_option maxHeartbeats 4000000 in
set_option maxRecDepth 100000 in
theorem imp_f_X12_until {κ : Kx (Int32 × CH)} (C : Cx κ cX12_until RX12 4 7 (40 * 7) []) (x1 : Int32) (x2 : Int32)  (h : CH) (Rr : Rt κ (some .int) (fun (q : Int32 × CH) (_ : Nat → Nat) => some (Value.int q.1)) (fun (q : (Int32 × CH)) => q.2)) : Imp κ 0 [(0, .ref (kad κ 151)), (1, .int (x1)), (2, .int (x2))] [] h (f_X12_until x1 x2 h) := by
  unfold f_X12_until
  refine r_aload_n C 1 0 rfl dX12_until_0 rfl ?_
  refine r_iload_n C 2 1 rfl dX12_until_1 rfl ?_
  refine r_cVpI C 5 [] (ok_f_X12_isFace x1 h) dX12_until_2 lvX12_424 kt_151 rfl rfl rfl (by decide) (Nat.le_of_ble_eq_true rfl) rfl rfl (Nat.le_of_ble_eq_true rfl) rfl rfl (fun v_1 => ?_)
  refine r_if_eq C 8 16 dX12_until_5 (by decide) rfl (fun c_2 => ?_) (fun c_2 => ?_)
  · refine r_iconst C 17 (-1) (by decide) dX12_until_16 rfl ?_
    exact r_iret C Rr dX12_until_17 (fun _ => rfl) rfl
  · refine r_iconst C 9 (nI 0) (by decide) dX12_until_8 rfl ?_
    refine r_iload_n C 10 2 rfl dX12_until_9 rfl ?_
    refine r_cSpI C 13 [] (ok_f_X12_isWhen ((nI 0)) x2 h) dX12_until_10 lsX12_434 rfl (by decide) (Nat.le_of_ble_eq_true rfl) rfl rfl (Nat.le_of_ble_eq_true rfl) rfl rfl (fun v_3 => ?_)
    refine r_if_ne C 16 18 dX12_until_13 (by decide) rfl (fun c_4 => ?_) (fun c_4 => ?_)
    · refine r_iconst C 17 (-1) (by decide) dX12_until_16 rfl ?_
      exact r_iret C Rr dX12_until_17 (fun _ => rfl) rfl
    · refine r_iconst C 19 (nI 0) (by decide) dX12_until_18 rfl ?_
      refine r_istore_n C 20 3 [(3, .int ((nI 0))), (0, .ref (kad κ 151)), (1, .int (x1)), (2, .int (x2))] dX12_until_19 rfl (by decide) rfl rfl ?_
      refine imp_sub [(0, .ref (kad κ 151)), (1, .int (x1)), (2, .int (x2)), (3, .int ((nI 0)))] [1, 2, 3, 0] rfl ?_
      refine imp_f_X12_until_L20 C (x1) (x2) Rr FU ((nI 0)) h
set_option maxHeartbeats 4000000 in
theorem ok_f_X12_until (x1 : Int32) (x2 : Int32)  (h : CH) : ∀ q, f_X12_until x1 x2 h = some q → MG yX12_until cX12_until 4 (some .int) [] 7 (fun ad => [.ref (ad 151), .int x1, .int x2]) h ((fun (q : Int32 × CH) (_ : Nat → Nat) => some (Value.int q.1)) q) ((fun (q : (Int32 × CH)) => q.2) q) := mg_of RX12 (by decide) rfl (fun _ => Nat.le_of_ble_eq_true rfl) (fun κ C Rr => imp_f_X12_until C x1 x2 h Rr)
set_option maxHeartbeats 4000000 in
set_option maxRecDepth 100000 in
theorem imp_f_X12_signsOf_L4 {κ : Kx (Int32 × CH)} (C : Cx κ cX12_signsOf RX12 3 5 (40 * 5) [])     (Rr : Rt κ (some .int) (fun (q : Int32 × CH) (_ : Nat → Nat) => some (Value.int q.1)) (fun (q : (Int32 × CH)) => q.2)) : ∀ (n : Nat) (x1 : Int32) (x2 : Int32) (h : CH), Imp κ 4 [(0, .ref (kad κ 151)), (1, .int (x1)), (2, .int (x2))] [] h (f_X12_signsOf_L4 n x1 x2 h) := by
  intro n
  induction n with
  | zero => intros; exact imp_none
  | succ n ih =>
    intro x1 x2 h
    rw [f_X12_signsOf_L4]
    refine r_iload_n C 5 2 rfl dX12_signsOf_4 rfl ?_
    refine r_aload_n C 6 0 rfl dX12_signsOf_5 rfl ?_
    refine r_getI C 9 dX12_signsOf_6 flX12_281 kt_151 rfl rfl ?_
    refine r_icmp_ge C 12 38 dX12_signsOf_9 (by decide) rfl (fun c_1 => ?_) (fun c_1 => ?_)
    · refine r_iload_n C 13 1 rfl dX12_signsOf_12 rfl ?_
      refine r_aload_n C 14 0 rfl dX12_signsOf_13 rfl ?_
      refine r_iconst C 15 (nI 1) (by decide) dX12_signsOf_14 rfl ?_
      refine r_iload_n C 16 2 rfl dX12_signsOf_15 rfl ?_
      refine r_iadd C 17 dX12_signsOf_16 rfl ?_
      refine r_cViI C 20 [.int (x1)] (ok_f_X12_holds (((nI 1)) + (x2)) h) dX12_signsOf_17 lvX12_421 kt_151 rfl rfl rfl (by decide) (Nat.le_of_ble_eq_true rfl) rfl rfl (Nat.le_of_ble_eq_true rfl) rfl rfl (fun v_2 h_3 => ?_)
      refine imp_jn (fun (j_6 : Int32 → Int32 → Option (Int32 × CH)) => ∀ (s_4 : Int32) (s_5 : Int32), Imp κ 30 [(0, .ref (kad κ 151)), (2, .int (x2))] [.int (s_4), .int (s_5)] h_3 (j_6 s_4 s_5)) ?_ ?_
      · intro s_4 s_5
        refine r_ior C 31 dX12_signsOf_30 rfl ?_
        refine r_istore_n C 32 1 [(1, .int ((s_5) ||| (s_4))), (0, .ref (kad κ 151)), (2, .int (x2))] dX12_signsOf_31 rfl (by decide) rfl rfl ?_
        refine r_iinc C 35 2 (nI 1) [(2, .int (x2 + (nI 1))), (1, .int ((s_5) ||| (s_4))), (0, .ref (kad κ 151))] dX12_signsOf_32 rfl (by decide) (by decide) rfl rfl ?_
        refine r_goto C 4 dX12_signsOf_35 (by decide) ?_
        exact imp_sub [(0, .ref (kad κ 151)), (1, .int ((s_5) ||| (s_4))), (2, .int (x2 + (nI 1)))] [2, 1, 0] rfl (ih ((s_5) ||| (s_4)) (x2 + (nI 1)) h_3)
      · intro j_6 hj_6
        refine r_if_eq C 23 29 dX12_signsOf_20 (by decide) rfl (fun c_7 => ?_) (fun c_7 => ?_)
        · refine r_iconst C 30 (nI 0) (by decide) dX12_signsOf_29 rfl ?_
          exact imp_sub [(0, .ref (kad κ 151)), (2, .int (x2))] [0, 2] rfl (hj_6 ((nI 0)) (x1))
        · refine r_iconst C 24 (nI 1) (by decide) dX12_signsOf_23 rfl ?_
          refine r_iload_n C 25 2 rfl dX12_signsOf_24 rfl ?_
          refine r_ishl C 26 dX12_signsOf_25 rfl ?_
          refine r_goto C 30 dX12_signsOf_26 (by decide) ?_
          exact imp_sub [(0, .ref (kad κ 151)), (2, .int (x2))] [0, 2] rfl (hj_6 (((nI 1)) <<< ((x2) &&& 31)) (x1))
    · refine r_iload_n C 39 1 rfl dX12_signsOf_38 rfl ?_
      exact r_iret C Rr dX12_signsOf_39 (fun _ => rfl) rfl
set_option maxHeartbeats 4000000 in
set_option maxRecDepth 100000 in
theorem imp_f_X12_signsOf {κ : Kx (Int32 × CH)} (C : Cx κ cX12_signsOf RX12 3 5 (40 * 5) [])   (h : CH) (Rr : Rt κ (some .int) (fun (q : Int32 × CH) (_ : Nat → Nat) => some (Value.int q.1)) (fun (q : (Int32 × CH)) => q.2)) : Imp κ 0 [(0, .ref (kad κ 151))] [] h (f_X12_signsOf h) := by
  unfold f_X12_signsOf
  refine r_iconst C 1 (nI 0) (by decide) dX12_signsOf_0 rfl ?_
  refine r_istore_n C 2 1 [(1, .int ((nI 0))), (0, .ref (kad κ 151))] dX12_signsOf_1 rfl (by decide) rfl rfl ?_
  refine r_iconst C 3 (nI 0) (by decide) dX12_signsOf_2 rfl ?_
  refine r_istore_n C 4 2 [(2, .int ((nI 0))), (1, .int ((nI 0))), (0, .ref (kad κ 151))] dX12_signsOf_3 rfl (by decide) rfl rfl ?_
  refine imp_sub [(0, .ref (kad κ 151)), (1, .int ((nI 0))), (2, .int ((nI 0)))] [2, 1, 0] rfl ?_
  refine imp_f_X12_signsOf_L4 C Rr FU ((nI 0)) ((nI 0)) h
set_option maxHeartbeats 4000000 in
theorem ok_f_X12_signsOf   (h : CH) : ∀ q, f_X12_signsOf h = some q → MG yX12_signsOf cX12_signsOf 3 (some .int) [] 5 (fun ad => [.ref (ad 151)]) h ((fun (q : Int32 × CH) (_ : Nat → Nat) => some (Value.int q.1)) q) ((fun (q : (Int32 × CH)) => q.2) q) := mg_of RX12 (by decide) rfl (fun _ => Nat.le_of_ble_eq_true rfl) (fun κ C Rr => imp_f_X12_signsOf C  h Rr)
set_option maxHeartbeats 4000000 in
set_option maxRecDepth 100000 in
theorem imp_f_X12_signs {κ : Kx (Int32 × CH)} (C : Cx κ cX12_signs RX12 5 6 (40 * 6) []) (x1 : Int32) (x2 : Int32) (x3 : Int32) (x4 : Int32)  (h : CH) (Rr : Rt κ (some .int) (fun (q : Int32 × CH) (_ : Nat → Nat) => some (Value.int q.1)) (fun (q : (Int32 × CH)) => q.2)) : Imp κ 0 [(0, .ref (kad κ 151)), (1, .int (x1)), (2, .int (x2)), (3, .int (x3)), (4, .int (x4))] [] h (f_X12_signs x1 x2 x3 x4 h) := by
  unfold f_X12_signs
  refine r_aload_n C 1 0 rfl dX12_signs_0 rfl ?_
  refine r_iload_n C 2 1 rfl dX12_signs_1 rfl ?_
  refine r_iload_n C 3 2 rfl dX12_signs_2 rfl ?_
  refine r_iload_n C 4 3 rfl dX12_signs_3 rfl ?_
  refine r_cVpI C 7 [] (ok_f_X12_isMix x1 x2 x3 h) dX12_signs_4 lvX12_442 kt_151 rfl rfl rfl (by decide) (Nat.le_of_ble_eq_true rfl) rfl rfl (Nat.le_of_ble_eq_true rfl) rfl rfl (fun v_1 => ?_)
  refine r_if_eq C 10 18 dX12_signs_7 (by decide) rfl (fun c_2 => ?_) (fun c_2 => ?_)
  · refine r_iconst C 19 (-1) (by decide) dX12_signs_18 rfl ?_
    exact r_iret C Rr dX12_signs_19 (fun _ => rfl) rfl
  · refine r_iload C 12 4 rfl dX12_signs_10 rfl ?_
    refine r_cSpI C 15 [] (ok_f_X12_isPrinterNo x4 h) dX12_signs_12 lsX12_445 rfl (by decide) (Nat.le_of_ble_eq_true rfl) rfl rfl (Nat.le_of_ble_eq_true rfl) rfl rfl (fun v_3 => ?_)
    refine r_if_ne C 18 20 dX12_signs_15 (by decide) rfl (fun c_4 => ?_) (fun c_4 => ?_)
    · refine r_iconst C 19 (-1) (by decide) dX12_signs_18 rfl ?_
      exact r_iret C Rr dX12_signs_19 (fun _ => rfl) rfl
    · refine r_aload_n C 21 0 rfl dX12_signs_20 rfl ?_
      refine r_iload_n C 22 1 rfl dX12_signs_21 rfl ?_
      refine r_iload_n C 23 2 rfl dX12_signs_22 rfl ?_
      refine r_iload_n C 24 3 rfl dX12_signs_23 rfl ?_
      refine r_iload C 26 4 rfl dX12_signs_24 rfl ?_
      refine r_cViV C 29 [] (ok_f_X12_layMix x1 x2 x3 x4 h) dX12_signs_26 lvX12_427 kt_151 rfl rfl rfl (by decide) (Nat.le_of_ble_eq_true rfl) rfl rfl (Nat.le_of_ble_eq_true rfl) rfl rfl (fun _ h_5 => ?_)
      refine r_aload_n C 30 0 rfl dX12_signs_29 rfl ?_
      refine r_cViI C 33 [] (ok_f_X12_signsOf h_5) dX12_signs_30 lvX12_452 kt_151 rfl rfl rfl (by decide) (Nat.le_of_ble_eq_true rfl) rfl rfl (Nat.le_of_ble_eq_true rfl) rfl rfl (fun v_6 h_7 => ?_)
      exact r_iret C Rr dX12_signs_33 (fun _ => rfl) rfl
set_option maxHeartbeats 4000000 in
theorem ok_f_X12_signs (x1 : Int32) (x2 : Int32) (x3 : Int32) (x4 : Int32)  (h : CH) : ∀ q, f_X12_signs x1 x2 x3 x4 h = some q → MG yX12_signs cX12_signs 5 (some .int) [] 6 (fun ad => [.ref (ad 151), .int x1, .int x2, .int x3, .int x4]) h ((fun (q : Int32 × CH) (_ : Nat → Nat) => some (Value.int q.1)) q) ((fun (q : (Int32 × CH)) => q.2) q) := mg_of RX12 (by decide) rfl (fun _ => Nat.le_of_ble_eq_true rfl) (fun κ C Rr => imp_f_X12_signs C x1 x2 x3 x4 h Rr)
set_option maxHeartbeats 4000000 in
set_option maxRecDepth 100000 in
theorem imp_f_X12_common_L4 {κ : Kx Int32} (C : Cx κ cX12_common RX12 5 1 (40 * 1) []) (h : CH)    (Rr : Rt κ (some .int) (fun (x : Int32) (_ : Nat → Nat) => some (Value.int x)) (fun (_ : Int32) => h)) : ∀ (n : Nat) (x2 : Int32) (x3 : Int32), Imp κ 4 [(2, .int (x2)), (3, .int (x3))] [] h (f_X12_common_L4 h n x2 x3) := by
  intro n
  induction n with
  | zero => intros; exact imp_none
  | succ n ih =>
    intro x2 x3
    rw [f_X12_common_L4]
    refine r_iload_n C 5 1 rfl dX12_common_4 rfl ?_
    refine r_if_eq C 8 21 dX12_common_5 (by decide) rfl (fun c_1 => ?_) (fun c_1 => ?_)
    · refine r_iload_n C 22 0 rfl dX12_common_21 rfl ?_
      exact r_iret C Rr dX12_common_22 (fun _ => rfl) rfl
    · refine r_iload_n C 9 0 rfl dX12_common_8 rfl ?_
      refine r_iload_n C 10 1 rfl dX12_common_9 rfl ?_
      refine r_irem C 11 dX12_common_10 rfl ?_
      refine r_istore C 13 [(4, .int ((x2) - (x2) / (x3) * (x3))), (2, .int (x2)), (3, .int (x3))] dX12_common_11 (by decide) rfl rfl ?_
      refine r_iload_n C 14 2 rfl dX12_common_13 rfl ?_
      refine r_istore_n C 15 2 [(2, .int (x3)), (4, .int ((x2) - (x2) / (x3) * (x3))), (3, .int (x3))] dX12_common_14 rfl (by decide) rfl rfl ?_
      refine r_iload C 17 1 rfl dX12_common_15 rfl ?_
      refine r_istore_n C 18 3 [(3, .int ((x2) - (x2) / (x3) * (x3))), (2, .int (x3)), (4, .int ((x2) - (x2) / (x3) * (x3)))] dX12_common_17 rfl (by decide) rfl rfl ?_
      refine r_goto C 4 dX12_common_18 (by decide) ?_
      exact imp_sub [(2, .int (x3)), (3, .int ((x2) - (x2) / (x3) * (x3)))] [1, 0] rfl (ih (x3) ((x2) - (x2) / (x3) * (x3)))
set_option maxHeartbeats 4000000 in
set_option maxRecDepth 100000 in
theorem imp_f_X12_common {κ : Kx Int32} (C : Cx κ cX12_common RX12 5 1 (40 * 1) []) (x0 : Int32) (x1 : Int32)  (h : CH) (Rr : Rt κ (some .int) (fun (x : Int32) (_ : Nat → Nat) => some (Value.int x)) (fun (_ : Int32) => h)) : Imp κ 0 [(0, .int (x0)), (1, .int (x1))] [] h (f_X12_common x0 x1 h) := by
  unfold f_X12_common
  refine r_iload_n C 1 0 rfl dX12_common_0 rfl ?_
  refine r_istore_n C 2 2 [(2, .int (x0)), (0, .int (x0)), (1, .int (x1))] dX12_common_1 rfl (by decide) rfl rfl ?_
  refine r_iload_n C 3 2 rfl dX12_common_2 rfl ?_
  refine r_istore_n C 4 3 [(3, .int (x1)), (2, .int (x0)), (0, .int (x0)), (1, .int (x1))] dX12_common_3 rfl (by decide) rfl rfl ?_
  refine imp_sub [(2, .int (x0)), (3, .int (x1))] [1, 0] rfl ?_
  refine imp_f_X12_common_L4 C h Rr FU (x0) (x1)
set_option maxHeartbeats 4000000 in
theorem ok_f_X12_common (x0 : Int32) (x1 : Int32)  (h : CH) : ∀ q, f_X12_common x0 x1 h = some q → MG yX12_common cX12_common 5 (some .int) [] 1 (fun ad => [.int x0, .int x1]) h ((fun (x : Int32) (_ : Nat → Nat) => some (Value.int x)) q) ((fun (_ : Int32) => h) q) := mg_of RX12 (by decide) rfl (fun _ => Nat.le_of_ble_eq_true rfl) (fun κ C Rr => imp_f_X12_common C x0 x1 h Rr)
set_option maxHeartbeats 4000000 in
set_option maxRecDepth 100000 in
theorem imp_f_X12_caught_L61 {κ : Kx (Int32 × CH)} (C : Cx κ cX12_caught RX12 8 6 (40 * 6) []) (x1 : Int32) (x2 : Int32) (x5 : Int32) (x6 : Int32)  (k103 : Int32 → Int32 → CH → Option (Int32 × CH)) (hk103 : ∀ (x3_14 : Int32) (x4_15 : Int32) (h_16 : CH), Imp κ 103 [(0, .ref (kad κ 151)), (1, .int (x1)), (2, .int (x2)), (3, .int (x3_14)), (4, .int (x4_15)), (5, .int (x5)), (6, .int (x6))] [] h_16 (k103 x3_14 x4_15 h_16)) (Rr : Rt κ (some .int) (fun (q : Int32 × CH) (_ : Nat → Nat) => some (Value.int q.1)) (fun (q : (Int32 × CH)) => q.2)) : ∀ (n : Nat) (x3 : Int32) (x4 : Int32) (x7 : Int32) (h : CH), Imp κ 61 [(0, .ref (kad κ 151)), (1, .int (x1)), (2, .int (x2)), (3, .int (x3)), (4, .int (x4)), (5, .int (x5)), (6, .int (x6)), (7, .int (x7))] [] h (f_X12_caught_L61 x1 x2 x5 x6 k103 n x3 x4 x7 h) := by
  intro n
  induction n with
  | zero => intros; exact imp_none
  | succ n ih =>
    intro x3 x4 x7 h
    rw [f_X12_caught_L61]
    refine r_iload C 63 7 rfl dX12_caught_61 rfl ?_
    refine r_bipush C 65 (nI 9) (by decide) dX12_caught_63 rfl ?_
    refine r_icmp_gt C 68 103 dX12_caught_65 (by decide) rfl (fun c_17 => ?_) (fun c_17 => ?_)
    · exact imp_sub [(0, .ref (kad κ 151)), (1, .int (x1)), (2, .int (x2)), (3, .int (x3)), (4, .int (x4)), (5, .int (x5)), (6, .int (x6))] [0, 1, 2, 3, 4, 5, 6] rfl (hk103 (x3) (x4) h)
    · refine r_aload_n C 69 0 rfl dX12_caught_68 rfl ?_
      refine r_iload C 71 5 rfl dX12_caught_69 rfl ?_
      refine r_iload C 73 6 rfl dX12_caught_71 rfl ?_
      refine r_iload C 75 7 rfl dX12_caught_73 rfl ?_
      refine r_iload_n C 76 1 rfl dX12_caught_75 rfl ?_
      refine r_cViV C 79 [] (ok_f_X12_layMix x5 x6 x7 x1 h) dX12_caught_76 lvX12_427 kt_151 rfl rfl rfl (by decide) (Nat.le_of_ble_eq_true rfl) rfl rfl (Nat.le_of_ble_eq_true rfl) rfl rfl (fun _ h_18 => ?_)
      refine r_iload_n C 80 3 rfl dX12_caught_79 rfl ?_
      refine r_aload_n C 81 0 rfl dX12_caught_80 rfl ?_
      refine r_cViI C 84 [.int (x3)] (ok_f_X12_signsOf h_18) dX12_caught_81 lvX12_452 kt_151 rfl rfl rfl (by decide) (Nat.le_of_ble_eq_true rfl) rfl rfl (Nat.le_of_ble_eq_true rfl) rfl rfl (fun v_19 h_20 => ?_)
      refine imp_jn (fun (j_23 : Int32 → Int32 → Option (Int32 × CH)) => ∀ (s_21 : Int32) (s_22 : Int32), Imp κ 92 [(0, .ref (kad κ 151)), (1, .int (x1)), (2, .int (x2)), (4, .int (x4)), (5, .int (x5)), (6, .int (x6)), (7, .int (x7))] [.int (s_21), .int (s_22)] h_20 (j_23 s_21 s_22)) ?_ ?_
      · intro s_21 s_22
        refine r_iadd C 93 dX12_caught_92 rfl ?_
        refine r_istore_n C 94 3 [(3, .int ((s_22) + (s_21))), (0, .ref (kad κ 151)), (1, .int (x1)), (2, .int (x2)), (4, .int (x4)), (5, .int (x5)), (6, .int (x6)), (7, .int (x7))] dX12_caught_93 rfl (by decide) rfl rfl ?_
        refine r_iinc C 97 4 (nI 1) [(4, .int (x4 + (nI 1))), (3, .int ((s_22) + (s_21))), (0, .ref (kad κ 151)), (1, .int (x1)), (2, .int (x2)), (5, .int (x5)), (6, .int (x6)), (7, .int (x7))] dX12_caught_94 rfl (by decide) (by decide) rfl rfl ?_
        refine r_iinc C 100 7 (nI 1) [(7, .int (x7 + (nI 1))), (4, .int (x4 + (nI 1))), (3, .int ((s_22) + (s_21))), (0, .ref (kad κ 151)), (1, .int (x1)), (2, .int (x2)), (5, .int (x5)), (6, .int (x6))] dX12_caught_97 rfl (by decide) (by decide) rfl rfl ?_
        refine r_goto C 61 dX12_caught_100 (by decide) ?_
        exact imp_sub [(0, .ref (kad κ 151)), (1, .int (x1)), (2, .int (x2)), (3, .int ((s_22) + (s_21))), (4, .int (x4 + (nI 1))), (5, .int (x5)), (6, .int (x6)), (7, .int (x7 + (nI 1)))] [3, 4, 5, 2, 1, 6, 7, 0] rfl (ih ((s_22) + (s_21)) (x4 + (nI 1)) (x7 + (nI 1)) h_20)
      · intro j_23 hj_23
        refine r_if_eq C 87 91 dX12_caught_84 (by decide) rfl (fun c_24 => ?_) (fun c_24 => ?_)
        · refine r_iconst C 92 (nI 0) (by decide) dX12_caught_91 rfl ?_
          exact imp_sub [(0, .ref (kad κ 151)), (1, .int (x1)), (2, .int (x2)), (4, .int (x4)), (5, .int (x5)), (6, .int (x6)), (7, .int (x7))] [0, 1, 2, 4, 5, 6, 7] rfl (hj_23 ((nI 0)) (x3))
        · refine r_iconst C 88 (nI 1) (by decide) dX12_caught_87 rfl ?_
          refine r_goto C 92 dX12_caught_88 (by decide) ?_
          exact imp_sub [(0, .ref (kad κ 151)), (1, .int (x1)), (2, .int (x2)), (4, .int (x4)), (5, .int (x5)), (6, .int (x6)), (7, .int (x7))] [0, 1, 2, 4, 5, 6, 7] rfl (hj_23 ((nI 1)) (x3))
set_option maxHeartbeats 4000000 in
set_option maxRecDepth 100000 in
theorem imp_f_X12_caught_L49 {κ : Kx (Int32 × CH)} (C : Cx κ cX12_caught RX12 8 6 (40 * 6) []) (x1 : Int32) (x2 : Int32) (x5 : Int32)  (k109 : Int32 → Int32 → CH → Option (Int32 × CH)) (hk109 : ∀ (x3_9 : Int32) (x4_10 : Int32) (h_11 : CH), Imp κ 109 [(0, .ref (kad κ 151)), (1, .int (x1)), (2, .int (x2)), (3, .int (x3_9)), (4, .int (x4_10)), (5, .int (x5))] [] h_11 (k109 x3_9 x4_10 h_11)) (Rr : Rt κ (some .int) (fun (q : Int32 × CH) (_ : Nat → Nat) => some (Value.int q.1)) (fun (q : (Int32 × CH)) => q.2)) : ∀ (n : Nat) (x3 : Int32) (x4 : Int32) (x6 : Int32) (h : CH), Imp κ 49 [(0, .ref (kad κ 151)), (1, .int (x1)), (2, .int (x2)), (3, .int (x3)), (4, .int (x4)), (5, .int (x5)), (6, .int (x6))] [] h (f_X12_caught_L49 x1 x2 x5 k109 n x3 x4 x6 h) := by
  intro n
  induction n with
  | zero => intros; exact imp_none
  | succ n ih =>
    intro x3 x4 x6 h
    rw [f_X12_caught_L49]
    refine r_iload C 51 6 rfl dX12_caught_49 rfl ?_
    refine r_aload_n C 52 0 rfl dX12_caught_51 rfl ?_
    refine r_cVpI C 55 [.int (x6)] (ok_f_X12_many h) dX12_caught_52 lvX12_399 kt_151 rfl rfl rfl (by decide) (Nat.le_of_ble_eq_true rfl) rfl rfl (Nat.le_of_ble_eq_true rfl) rfl rfl (fun v_12 => ?_)
    refine r_icmp_ge C 58 109 dX12_caught_55 (by decide) rfl (fun c_13 => ?_) (fun c_13 => ?_)
    · refine r_iconst C 59 (nI 1) (by decide) dX12_caught_58 rfl ?_
      refine r_istore C 61 [(7, .int ((nI 1))), (0, .ref (kad κ 151)), (1, .int (x1)), (2, .int (x2)), (3, .int (x3)), (4, .int (x4)), (5, .int (x5)), (6, .int (x6))] dX12_caught_59 (by decide) rfl rfl ?_
      refine imp_sub [(0, .ref (kad κ 151)), (1, .int (x1)), (2, .int (x2)), (3, .int (x3)), (4, .int (x4)), (5, .int (x5)), (6, .int (x6)), (7, .int ((nI 1)))] [1, 2, 3, 4, 5, 6, 7, 0] rfl ?_
      refine imp_f_X12_caught_L61 C (x1) (x2) (x5) (x6) _ ?_ Rr FU (x3) (x4) ((nI 1)) h
      · intro x3_14 x4_15 h_16
        refine r_iinc C 106 6 (nI 1) [(6, .int (x6 + (nI 1))), (0, .ref (kad κ 151)), (1, .int (x1)), (2, .int (x2)), (3, .int (x3_14)), (4, .int (x4_15)), (5, .int (x5))] dX12_caught_103 rfl (by decide) (by decide) rfl rfl ?_
        refine r_goto C 49 dX12_caught_106 (by decide) ?_
        exact imp_sub [(0, .ref (kad κ 151)), (1, .int (x1)), (2, .int (x2)), (3, .int (x3_14)), (4, .int (x4_15)), (5, .int (x5)), (6, .int (x6 + (nI 1)))] [1, 2, 3, 4, 5, 6, 0] rfl (ih (x3_14) (x4_15) (x6 + (nI 1)) h_16)
    · exact imp_sub [(0, .ref (kad κ 151)), (1, .int (x1)), (2, .int (x2)), (3, .int (x3)), (4, .int (x4)), (5, .int (x5))] [0, 1, 2, 3, 4, 5] rfl (hk109 (x3) (x4) h)
set_option maxHeartbeats 4000000 in
set_option maxRecDepth 100000 in
theorem imp_f_X12_caught_L34 {κ : Kx (Int32 × CH)} (C : Cx κ cX12_caught RX12 8 6 (40 * 6) []) (x1 : Int32) (x2 : Int32)    (Rr : Rt κ (some .int) (fun (q : Int32 × CH) (_ : Nat → Nat) => some (Value.int q.1)) (fun (q : (Int32 × CH)) => q.2)) : ∀ (n : Nat) (x3 : Int32) (x4 : Int32) (x5 : Int32) (h : CH), Imp κ 34 [(0, .ref (kad κ 151)), (1, .int (x1)), (2, .int (x2)), (3, .int (x3)), (4, .int (x4)), (5, .int (x5))] [] h (f_X12_caught_L34 x1 x2 n x3 x4 x5 h) := by
  intro n
  induction n with
  | zero => intros; exact imp_none
  | succ n ih =>
    intro x3 x4 x5 h
    rw [f_X12_caught_L34]
    refine r_iload C 36 5 rfl dX12_caught_34 rfl ?_
    refine r_aload_n C 37 0 rfl dX12_caught_36 rfl ?_
    refine r_cVpI C 40 [.int (x5)] (ok_f_X12_many h) dX12_caught_37 lvX12_399 kt_151 rfl rfl rfl (by decide) (Nat.le_of_ble_eq_true rfl) rfl rfl (Nat.le_of_ble_eq_true rfl) rfl rfl (fun v_7 => ?_)
    refine r_icmp_ge C 43 115 dX12_caught_40 (by decide) rfl (fun c_8 => ?_) (fun c_8 => ?_)
    · refine r_iload C 45 5 rfl dX12_caught_43 rfl ?_
      refine r_iconst C 46 (nI 1) (by decide) dX12_caught_45 rfl ?_
      refine r_iadd C 47 dX12_caught_46 rfl ?_
      refine r_istore C 49 [(6, .int ((x5) + ((nI 1)))), (0, .ref (kad κ 151)), (1, .int (x1)), (2, .int (x2)), (3, .int (x3)), (4, .int (x4)), (5, .int (x5))] dX12_caught_47 (by decide) rfl rfl ?_
      refine imp_sub [(0, .ref (kad κ 151)), (1, .int (x1)), (2, .int (x2)), (3, .int (x3)), (4, .int (x4)), (5, .int (x5)), (6, .int ((x5) + ((nI 1))))] [1, 2, 3, 4, 5, 6, 0] rfl ?_
      refine imp_f_X12_caught_L49 C (x1) (x2) (x5) _ ?_ Rr FU (x3) (x4) ((x5) + ((nI 1))) h
      · intro x3_9 x4_10 h_11
        refine r_iinc C 112 5 (nI 1) [(5, .int (x5 + (nI 1))), (0, .ref (kad κ 151)), (1, .int (x1)), (2, .int (x2)), (3, .int (x3_9)), (4, .int (x4_10))] dX12_caught_109 rfl (by decide) (by decide) rfl rfl ?_
        refine r_goto C 34 dX12_caught_112 (by decide) ?_
        exact imp_sub [(0, .ref (kad κ 151)), (1, .int (x1)), (2, .int (x2)), (3, .int (x3_9)), (4, .int (x4_10)), (5, .int (x5 + (nI 1)))] [1, 2, 3, 4, 5, 0] rfl (ih (x3_9) (x4_10) (x5 + (nI 1)) h_11)
    · refine r_iload_n C 116 3 rfl dX12_caught_115 rfl ?_
      refine r_iload C 118 4 rfl dX12_caught_116 rfl ?_
      refine r_cSpI C 121 [] (ok_f_X12_common x3 x4 h) dX12_caught_118 lsX12_455 rfl (by decide) (Nat.le_of_ble_eq_true rfl) rfl rfl (Nat.le_of_ble_eq_true rfl) rfl rfl (fun v_25 => ?_)
      refine r_istore C 123 [(5, .int (v_25)), (0, .ref (kad κ 151)), (1, .int (x1)), (2, .int (x2)), (3, .int (x3)), (4, .int (x4))] dX12_caught_121 (by decide) rfl rfl ?_
      refine r_iload_n C 124 3 rfl dX12_caught_123 rfl ?_
      refine r_if_ne C 127 134 dX12_caught_124 (by decide) rfl (fun c_26 => ?_) (fun c_26 => ?_)
      · refine r_iload_n C 128 4 rfl dX12_caught_127 rfl ?_
        refine r_iload C 130 0 rfl dX12_caught_128 rfl ?_
        refine r_idiv C 131 dX12_caught_130 rfl ?_
        refine r_goto C 139 dX12_caught_131 (by decide) ?_
        exact r_iret C Rr dX12_caught_139 (fun _ => rfl) rfl
      · refine r_iload C 136 5 rfl dX12_caught_134 rfl ?_
        refine r_iload C 138 0 rfl dX12_caught_136 rfl ?_
        refine r_idiv C 139 dX12_caught_138 rfl ?_
        exact r_iret C Rr dX12_caught_139 (fun _ => rfl) rfl
set_option maxHeartbeats 4000000 in
set_option maxRecDepth 100000 in
theorem imp_f_X12_caught {κ : Kx (Int32 × CH)} (C : Cx κ cX12_caught RX12 8 6 (40 * 6) []) (x1 : Int32) (x2 : Int32)  (h : CH) (Rr : Rt κ (some .int) (fun (q : Int32 × CH) (_ : Nat → Nat) => some (Value.int q.1)) (fun (q : (Int32 × CH)) => q.2)) : Imp κ 0 [(0, .ref (kad κ 151)), (1, .int (x1)), (2, .int (x2))] [] h (f_X12_caught x1 x2 h) := by
  unfold f_X12_caught
  refine r_iload_n C 1 1 rfl dX12_caught_0 rfl ?_
  refine r_cSpI C 4 [] (ok_f_X12_isPrinterNo x1 h) dX12_caught_1 lsX12_445 rfl (by decide) (Nat.le_of_ble_eq_true rfl) rfl rfl (Nat.le_of_ble_eq_true rfl) rfl rfl (fun v_1 => ?_)
  refine r_if_eq C 7 24 dX12_caught_4 (by decide) rfl (fun c_2 => ?_) (fun c_2 => ?_)
  · refine r_iconst C 25 (-1) (by decide) dX12_caught_24 rfl ?_
    exact r_iret C Rr dX12_caught_25 (fun _ => rfl) rfl
  · refine r_iload_n C 8 2 rfl dX12_caught_7 rfl ?_
    refine r_iconst C 9 (nI 0) (by decide) dX12_caught_8 rfl ?_
    refine r_iconst C 10 (nI 1) (by decide) dX12_caught_9 rfl ?_
    refine r_cSpI C 13 [] (ok_f_X12_isIn x2 ((nI 0)) ((nI 1)) h) dX12_caught_10 lsX12_402 rfl (by decide) (Nat.le_of_ble_eq_true rfl) rfl rfl (Nat.le_of_ble_eq_true rfl) rfl rfl (fun v_3 => ?_)
    refine r_if_eq C 16 24 dX12_caught_13 (by decide) rfl (fun c_4 => ?_) (fun c_4 => ?_)
    · refine r_iconst C 25 (-1) (by decide) dX12_caught_24 rfl ?_
      exact r_iret C Rr dX12_caught_25 (fun _ => rfl) rfl
    · refine r_aload_n C 17 0 rfl dX12_caught_16 rfl ?_
      refine r_cVpI C 20 [] (ok_f_X12_many h) dX12_caught_17 lvX12_399 kt_151 rfl rfl rfl (by decide) (Nat.le_of_ble_eq_true rfl) rfl rfl (Nat.le_of_ble_eq_true rfl) rfl rfl (fun v_5 => ?_)
      refine r_iconst C 21 (nI 2) (by decide) dX12_caught_20 rfl ?_
      refine r_icmp_ge C 24 26 dX12_caught_21 (by decide) rfl (fun c_6 => ?_) (fun c_6 => ?_)
      · refine r_iconst C 25 (-1) (by decide) dX12_caught_24 rfl ?_
        exact r_iret C Rr dX12_caught_25 (fun _ => rfl) rfl
      · refine r_iconst C 27 (nI 0) (by decide) dX12_caught_26 rfl ?_
        refine r_istore_n C 28 3 [(3, .int ((nI 0))), (0, .ref (kad κ 151)), (1, .int (x1)), (2, .int (x2))] dX12_caught_27 rfl (by decide) rfl rfl ?_
        refine r_iconst C 29 (nI 0) (by decide) dX12_caught_28 rfl ?_
        refine r_istore C 31 [(4, .int ((nI 0))), (3, .int ((nI 0))), (0, .ref (kad κ 151)), (1, .int (x1)), (2, .int (x2))] dX12_caught_29 (by decide) rfl rfl ?_
        refine r_iconst C 32 (nI 0) (by decide) dX12_caught_31 rfl ?_
        refine r_istore C 34 [(5, .int ((nI 0))), (4, .int ((nI 0))), (3, .int ((nI 0))), (0, .ref (kad κ 151)), (1, .int (x1)), (2, .int (x2))] dX12_caught_32 (by decide) rfl rfl ?_
        refine imp_sub [(0, .ref (kad κ 151)), (1, .int (x1)), (2, .int (x2)), (3, .int ((nI 0))), (4, .int ((nI 0))), (5, .int ((nI 0)))] [3, 4, 5, 2, 1, 0] rfl ?_
        refine imp_f_X12_caught_L34 C (x1) (x2) Rr FU ((nI 0)) ((nI 0)) ((nI 0)) h
set_option maxHeartbeats 4000000 in
theorem ok_f_X12_caught (x1 : Int32) (x2 : Int32)  (h : CH) : ∀ q, f_X12_caught x1 x2 h = some q → MG yX12_caught cX12_caught 8 (some .int) [] 6 (fun ad => [.ref (ad 151), .int x1, .int x2]) h ((fun (q : Int32 × CH) (_ : Nat → Nat) => some (Value.int q.1)) q) ((fun (q : (Int32 × CH)) => q.2) q) := mg_of RX12 (by decide) rfl (fun _ => Nat.le_of_ble_eq_true rfl) (fun κ C Rr => imp_f_X12_caught C x1 x2 h Rr)
set_option maxHeartbeats 4000000 in
set_option maxRecDepth 100000 in
theorem imp_f_X12_paper {κ : Kx (Int32 × CH)} (C : Cx κ cX12_paper RX12 5 3 (40 * 3) []) (x1 : Int32) (x2 : Int32) (x3 : Int32) (x4 : Int32)  (h : CH) (Rr : Rt κ (some .int) (fun (q : Int32 × CH) (_ : Nat → Nat) => some (Value.int q.1)) (fun (q : (Int32 × CH)) => q.2)) : Imp κ 0 [(0, .ref (kad κ 151)), (1, .int (x1)), (2, .int (x2)), (3, .int (x3)), (4, .int (x4))] [] h (f_X12_paper x1 x2 x3 x4 h) := by
  unfold f_X12_paper
  refine r_aload_n C 1 0 rfl dX12_paper_0 rfl ?_
  refine r_iload_n C 2 1 rfl dX12_paper_1 rfl ?_
  refine r_cVpI C 5 [] (ok_f_X12_isFace x1 h) dX12_paper_2 lvX12_424 kt_151 rfl rfl rfl (by decide) (Nat.le_of_ble_eq_true rfl) rfl rfl (Nat.le_of_ble_eq_true rfl) rfl rfl (fun v_1 => ?_)
  refine r_if_eq C 8 59 dX12_paper_5 (by decide) rfl (fun c_2 => ?_) (fun c_2 => ?_)
  · refine r_iconst C 60 (-1) (by decide) dX12_paper_59 rfl ?_
    exact r_iret C Rr dX12_paper_60 (fun _ => rfl) rfl
  · refine r_aload_n C 9 0 rfl dX12_paper_8 rfl ?_
    refine r_iload_n C 10 2 rfl dX12_paper_9 rfl ?_
    refine r_cVpI C 13 [] (ok_f_X12_isFace x2 h) dX12_paper_10 lvX12_424 kt_151 rfl rfl rfl (by decide) (Nat.le_of_ble_eq_true rfl) rfl rfl (Nat.le_of_ble_eq_true rfl) rfl rfl (fun v_3 => ?_)
    refine r_if_eq C 16 59 dX12_paper_13 (by decide) rfl (fun c_4 => ?_) (fun c_4 => ?_)
    · refine r_iconst C 60 (-1) (by decide) dX12_paper_59 rfl ?_
      exact r_iret C Rr dX12_paper_60 (fun _ => rfl) rfl
    · refine r_iload_n C 17 3 rfl dX12_paper_16 rfl ?_
      refine r_iconst C 18 (nI 0) (by decide) dX12_paper_17 rfl ?_
      refine r_bipush C 20 (nI 10) (by decide) dX12_paper_18 rfl ?_
      refine r_cSpI C 23 [] (ok_f_X12_isIn x3 ((nI 0)) ((nI 10)) h) dX12_paper_20 lsX12_402 rfl (by decide) (Nat.le_of_ble_eq_true rfl) rfl rfl (Nat.le_of_ble_eq_true rfl) rfl rfl (fun v_5 => ?_)
      refine r_if_eq C 26 59 dX12_paper_23 (by decide) rfl (fun c_6 => ?_) (fun c_6 => ?_)
      · refine r_iconst C 60 (-1) (by decide) dX12_paper_59 rfl ?_
        exact r_iret C Rr dX12_paper_60 (fun _ => rfl) rfl
      · refine r_iload C 28 4 rfl dX12_paper_26 rfl ?_
        refine r_iconst C 29 (nI 0) (by decide) dX12_paper_28 rfl ?_
        refine r_sipush C 32 (nI 6099) (by decide) dX12_paper_29 rfl ?_
        refine r_cSpI C 35 [] (ok_f_X12_isIn x4 ((nI 0)) ((nI 6099)) h) dX12_paper_32 lsX12_402 rfl (by decide) (Nat.le_of_ble_eq_true rfl) rfl rfl (Nat.le_of_ble_eq_true rfl) rfl rfl (fun v_7 => ?_)
        refine r_if_eq C 38 59 dX12_paper_35 (by decide) rfl (fun c_8 => ?_) (fun c_8 => ?_)
        · refine r_iconst C 60 (-1) (by decide) dX12_paper_59 rfl ?_
          exact r_iret C Rr dX12_paper_60 (fun _ => rfl) rfl
        · refine r_iload C 40 4 rfl dX12_paper_38 rfl ?_
          refine r_bipush C 42 (nI 10) (by decide) dX12_paper_40 rfl ?_
          refine r_idivk C 43 (by decide) dX12_paper_42 rfl ?_
          refine r_bipush C 45 (nI 10) (by decide) dX12_paper_43 rfl ?_
          refine r_iremk C 46 (by decide) dX12_paper_45 rfl ?_
          refine r_iconst C 47 (nI 4) (by decide) dX12_paper_46 rfl ?_
          refine r_icmp_ge C 50 59 dX12_paper_47 (by decide) rfl (fun c_9 => ?_) (fun c_9 => ?_)
          · refine r_aload_n C 51 0 rfl dX12_paper_50 rfl ?_
            refine r_getI C 54 dX12_paper_51 flX12_275 kt_151 rfl rfl ?_
            refine r_bipush C 56 (nI 40) (by decide) dX12_paper_54 rfl ?_
            refine r_icmp_ne C 59 61 dX12_paper_56 (by decide) rfl (fun c_10 => ?_) (fun c_10 => ?_)
            · refine r_iconst C 60 (-1) (by decide) dX12_paper_59 rfl ?_
              exact r_iret C Rr dX12_paper_60 (fun _ => rfl) rfl
            · refine r_aload_n C 62 0 rfl dX12_paper_61 rfl ?_
              refine r_getR C 65 dX12_paper_62 flX12_95 kt_151 rfl rf_151_54 rfl ?_
              refine r_aload_n C 66 0 rfl dX12_paper_65 rfl ?_
              refine r_getI C 69 dX12_paper_66 flX12_275 kt_151 rfl rfl ?_
              refine r_iload_n C 70 1 rfl dX12_paper_69 rfl ?_
              refine r_iast C 71 dX12_paper_70 kt_178 rfl rfl (fun h_11 => ?_)
              refine r_aload_n C 72 0 rfl dX12_paper_71 rfl ?_
              refine r_getR C 75 dX12_paper_72 flX12_98 kt_151 rfl rf_151_55 rfl ?_
              refine r_aload_n C 76 0 rfl dX12_paper_75 rfl ?_
              refine r_getI C 79 dX12_paper_76 flX12_275 kt_151 rfl rfl ?_
              refine r_iload_n C 80 2 rfl dX12_paper_79 rfl ?_
              refine r_iast C 81 dX12_paper_80 kt_179 rfl rfl (fun h_12 => ?_)
              refine r_aload_n C 82 0 rfl dX12_paper_81 rfl ?_
              refine r_getR C 85 dX12_paper_82 flX12_101 kt_151 rfl rf_151_56 rfl ?_
              refine r_aload_n C 86 0 rfl dX12_paper_85 rfl ?_
              refine r_getI C 89 dX12_paper_86 flX12_275 kt_151 rfl rfl ?_
              refine r_iload_n C 90 3 rfl dX12_paper_89 rfl ?_
              refine r_iast C 91 dX12_paper_90 kt_180 rfl rfl (fun h_13 => ?_)
              refine r_aload_n C 92 0 rfl dX12_paper_91 rfl ?_
              refine r_getR C 95 dX12_paper_92 flX12_104 kt_151 rfl rf_151_57 rfl ?_
              refine r_aload_n C 96 0 rfl dX12_paper_95 rfl ?_
              refine r_getI C 99 dX12_paper_96 flX12_275 kt_151 rfl rfl ?_
              refine r_iload C 101 4 rfl dX12_paper_99 rfl ?_
              refine r_iast C 102 dX12_paper_101 kt_181 rfl rfl (fun h_14 => ?_)
              refine r_aload_n C 103 0 rfl dX12_paper_102 rfl ?_
              refine r_getR C 106 dX12_paper_103 flX12_107 kt_151 rfl rf_151_58 rfl ?_
              refine r_aload_n C 107 0 rfl dX12_paper_106 rfl ?_
              refine r_getI C 110 dX12_paper_107 flX12_275 kt_151 rfl rfl ?_
              refine r_aload_n C 111 0 rfl dX12_paper_110 rfl ?_
              refine r_getI C 114 dX12_paper_111 flX12_458 kt_151 rfl rfl ?_
              refine r_iast C 115 dX12_paper_114 kt_182 rfl rfl (fun h_15 => ?_)
              refine r_aload_n C 116 0 rfl dX12_paper_115 rfl ?_
              refine r_getR C 119 dX12_paper_116 flX12_110 kt_151 rfl rf_151_59 rfl ?_
              refine r_aload_n C 120 0 rfl dX12_paper_119 rfl ?_
              refine r_getI C 123 dX12_paper_120 flX12_275 kt_151 rfl rfl ?_
              refine r_iconst C 124 (-1) (by decide) dX12_paper_123 rfl ?_
              refine r_iast C 125 dX12_paper_124 kt_183 rfl rfl (fun h_16 => ?_)
              refine r_aload_n C 126 0 rfl dX12_paper_125 rfl ?_
              refine r_dup C 127 rfl dX12_paper_126 rfl ?_
              refine r_getI C 130 dX12_paper_127 flX12_275 kt_151 rfl rfl ?_
              refine r_iconst C 131 (nI 1) (by decide) dX12_paper_130 rfl ?_
              refine r_iadd C 132 dX12_paper_131 rfl ?_
              refine r_putI C 135 dX12_paper_132 flX12_275 kt_151 rfl rfl (fun h_17 => ?_)
              refine r_aload_n C 136 0 rfl dX12_paper_135 rfl ?_
              refine r_getI C 139 dX12_paper_136 flX12_275 kt_151 rfl rfl ?_
              refine r_iconst C 140 (nI 1) (by decide) dX12_paper_139 rfl ?_
              refine r_isub C 141 dX12_paper_140 rfl ?_
              exact r_iret C Rr dX12_paper_141 (fun _ => rfl) rfl
          · refine r_iconst C 60 (-1) (by decide) dX12_paper_59 rfl ?_
            exact r_iret C Rr dX12_paper_60 (fun _ => rfl) rfl
set_option maxHeartbeats 4000000 in
theorem ok_f_X12_paper (x1 : Int32) (x2 : Int32) (x3 : Int32) (x4 : Int32)  (h : CH) : ∀ q, f_X12_paper x1 x2 x3 x4 h = some q → MG yX12_paper cX12_paper 5 (some .int) [] 3 (fun ad => [.ref (ad 151), .int x1, .int x2, .int x3, .int x4]) h ((fun (q : Int32 × CH) (_ : Nat → Nat) => some (Value.int q.1)) q) ((fun (q : (Int32 × CH)) => q.2) q) := mg_of RX12 (by decide) rfl (fun _ => Nat.le_of_ble_eq_true rfl) (fun κ C Rr => imp_f_X12_paper C x1 x2 x3 x4 h Rr)
set_option maxHeartbeats 4000000 in
set_option maxRecDepth 100000 in
theorem imp_f_X12_untell {κ : Kx (Int32 × CH)} (C : Cx κ cX12_untell RX12 2 2 (40 * 2) []) (x1 : Int32)  (h : CH) (Rr : Rt κ (some .boolean) (fun (q : Int32 × CH) (_ : Nat → Nat) => some (Value.int q.1)) (fun (q : (Int32 × CH)) => q.2)) : Imp κ 0 [(0, .ref (kad κ 151)), (1, .int (x1))] [] h (f_X12_untell x1 h) := by
  unfold f_X12_untell
  refine r_iload_n C 1 1 rfl dX12_untell_0 rfl ?_
  refine r_iconst C 2 (nI 0) (by decide) dX12_untell_1 rfl ?_
  refine r_aload_n C 3 0 rfl dX12_untell_2 rfl ?_
  refine r_getI C 6 dX12_untell_3 flX12_275 kt_151 rfl rfl ?_
  refine r_iconst C 7 (nI 1) (by decide) dX12_untell_6 rfl ?_
  refine r_isub C 8 dX12_untell_7 rfl ?_
  refine r_cSpI C 11 [] (ok_f_X12_isIn x1 ((nI 0)) ((h.1 151 60) - ((nI 1))) h) dX12_untell_8 lsX12_402 rfl (by decide) (Nat.le_of_ble_eq_true rfl) rfl rfl (Nat.le_of_ble_eq_true rfl) rfl rfl (fun v_1 => ?_)
  refine r_if_eq C 14 23 dX12_untell_11 (by decide) rfl (fun c_2 => ?_) (fun c_2 => ?_)
  · refine r_iconst C 24 (nI 0) (by decide) dX12_untell_23 rfl ?_
    exact r_zret C Rr (by decide) dX12_untell_24 (fun _ => rfl) rfl
  · refine r_aload_n C 15 0 rfl dX12_untell_14 rfl ?_
    refine r_getR C 18 dX12_untell_15 flX12_110 kt_151 rfl rf_151_59 rfl ?_
    refine r_iload_n C 19 1 rfl dX12_untell_18 rfl ?_
    refine r_iald C 20 dX12_untell_19 kt_183 rfl rfl (fun v_3 => ?_)
    refine r_if_lt C 23 25 dX12_untell_20 (by decide) rfl (fun c_4 => ?_) (fun c_4 => ?_)
    · refine r_aload_n C 26 0 rfl dX12_untell_25 rfl ?_
      refine r_getR C 29 dX12_untell_26 flX12_110 kt_151 rfl rf_151_59 rfl ?_
      refine r_iload_n C 30 1 rfl dX12_untell_29 rfl ?_
      refine r_aload_n C 31 0 rfl dX12_untell_30 rfl ?_
      refine r_getI C 34 dX12_untell_31 flX12_458 kt_151 rfl rfl ?_
      refine r_iast C 35 dX12_untell_34 kt_183 rfl rfl (fun h_5 => ?_)
      refine r_iconst C 36 (nI 1) (by decide) dX12_untell_35 rfl ?_
      exact r_zret C Rr (by decide) dX12_untell_36 (fun _ => rfl) rfl
    · refine r_iconst C 24 (nI 0) (by decide) dX12_untell_23 rfl ?_
      exact r_zret C Rr (by decide) dX12_untell_24 (fun _ => rfl) rfl
set_option maxHeartbeats 4000000 in
theorem ok_f_X12_untell (x1 : Int32)  (h : CH) : ∀ q, f_X12_untell x1 h = some q → MG yX12_untell cX12_untell 2 (some .boolean) [] 2 (fun ad => [.ref (ad 151), .int x1]) h ((fun (q : Int32 × CH) (_ : Nat → Nat) => some (Value.int q.1)) q) ((fun (q : (Int32 × CH)) => q.2) q) := mg_of RX12 (by decide) rfl (fun _ => Nat.le_of_ble_eq_true rfl) (fun κ C Rr => imp_f_X12_untell C x1 h Rr)
set_option maxHeartbeats 4000000 in
set_option maxRecDepth 100000 in
theorem imp_f_X12_later {κ : Kx (Int32 × CH)} (C : Cx κ cX12_later RX12 2 2 (40 * 2) []) (x1 : Int32)  (h : CH) (Rr : Rt κ (some .int) (fun (q : Int32 × CH) (_ : Nat → Nat) => some (Value.int q.1)) (fun (q : (Int32 × CH)) => q.2)) : Imp κ 0 [(0, .ref (kad κ 151)), (1, .int (x1))] [] h (f_X12_later x1 h) := by
  unfold f_X12_later
  refine r_iload_n C 1 1 rfl dX12_later_0 rfl ?_
  refine r_iconst C 2 (nI 0) (by decide) dX12_later_1 rfl ?_
  refine r_sipush C 5 (nI 1000) (by decide) dX12_later_2 rfl ?_
  refine r_cSpI C 8 [] (ok_f_X12_isIn x1 ((nI 0)) ((nI 1000)) h) dX12_later_5 lsX12_402 rfl (by decide) (Nat.le_of_ble_eq_true rfl) rfl rfl (Nat.le_of_ble_eq_true rfl) rfl rfl (fun v_1 => ?_)
  refine r_if_eq C 11 23 dX12_later_8 (by decide) rfl (fun c_2 => ?_) (fun c_2 => ?_)
  · refine r_iconst C 24 (-1) (by decide) dX12_later_23 rfl ?_
    exact r_iret C Rr dX12_later_24 (fun _ => rfl) rfl
  · refine r_aload_n C 12 0 rfl dX12_later_11 rfl ?_
    refine r_getI C 15 dX12_later_12 flX12_458 kt_151 rfl rfl ?_
    refine r_iload_n C 16 1 rfl dX12_later_15 rfl ?_
    refine r_iadd C 17 dX12_later_16 rfl ?_
    refine r_ldc_w C 20 lkX12_461 dX12_later_17 rfl ?_
    refine r_icmp_le C 23 25 dX12_later_20 (by decide) rfl (fun c_3 => ?_) (fun c_3 => ?_)
    · refine r_iconst C 24 (-1) (by decide) dX12_later_23 rfl ?_
      exact r_iret C Rr dX12_later_24 (fun _ => rfl) rfl
    · refine r_aload_n C 26 0 rfl dX12_later_25 rfl ?_
      refine r_dup C 27 rfl dX12_later_26 rfl ?_
      refine r_getI C 30 dX12_later_27 flX12_458 kt_151 rfl rfl ?_
      refine r_iload_n C 31 1 rfl dX12_later_30 rfl ?_
      refine r_iadd C 32 dX12_later_31 rfl ?_
      refine r_putI C 35 dX12_later_32 flX12_458 kt_151 rfl rfl (fun h_4 => ?_)
      refine r_aload_n C 36 0 rfl dX12_later_35 rfl ?_
      refine r_getI C 39 dX12_later_36 flX12_458 kt_151 rfl rfl ?_
      exact r_iret C Rr dX12_later_39 (fun _ => rfl) rfl
set_option maxHeartbeats 4000000 in
theorem ok_f_X12_later (x1 : Int32)  (h : CH) : ∀ q, f_X12_later x1 h = some q → MG yX12_later cX12_later 2 (some .int) [] 2 (fun ad => [.ref (ad 151), .int x1]) h ((fun (q : Int32 × CH) (_ : Nat → Nat) => some (Value.int q.1)) q) ((fun (q : (Int32 × CH)) => q.2) q) := mg_of RX12 (by decide) rfl (fun _ => Nat.le_of_ble_eq_true rfl) (fun κ C Rr => imp_f_X12_later C x1 h Rr)
set_option maxHeartbeats 4000000 in
set_option maxRecDepth 100000 in
theorem imp_f_X12_counts {κ : Kx Int32} (C : Cx κ cX12_counts RX12 3 2 (40 * 2) []) (x1 : Int32) (x2 : Int32)  (h : CH) (Rr : Rt κ (some .boolean) (fun (x : Int32) (_ : Nat → Nat) => some (Value.int x)) (fun (_ : Int32) => h)) : Imp κ 0 [(0, .ref (kad κ 151)), (1, .int (x1)), (2, .int (x2))] [] h (f_X12_counts x1 x2 h) := by
  unfold f_X12_counts
  refine r_iload_n C 1 1 rfl dX12_counts_0 rfl ?_
  refine r_iconst C 2 (nI 0) (by decide) dX12_counts_1 rfl ?_
  refine r_aload_n C 3 0 rfl dX12_counts_2 rfl ?_
  refine r_getI C 6 dX12_counts_3 flX12_275 kt_151 rfl rfl ?_
  refine r_iconst C 7 (nI 1) (by decide) dX12_counts_6 rfl ?_
  refine r_isub C 8 dX12_counts_7 rfl ?_
  refine r_cSpI C 11 [] (ok_f_X12_isIn x1 ((nI 0)) ((h.1 151 60) - ((nI 1))) h) dX12_counts_8 lsX12_402 rfl (by decide) (Nat.le_of_ble_eq_true rfl) rfl rfl (Nat.le_of_ble_eq_true rfl) rfl rfl (fun v_1 => ?_)
  refine r_if_eq C 14 47 dX12_counts_11 (by decide) rfl (fun c_2 => ?_) (fun c_2 => ?_)
  · refine r_iconst C 48 (nI 0) (by decide) dX12_counts_47 rfl ?_
    exact r_zret C Rr (by decide) dX12_counts_48 (fun _ => rfl) rfl
  · refine r_aload_n C 15 0 rfl dX12_counts_14 rfl ?_
    refine r_getR C 18 dX12_counts_15 flX12_107 kt_151 rfl rf_151_58 rfl ?_
    refine r_iload_n C 19 1 rfl dX12_counts_18 rfl ?_
    refine r_iald C 20 dX12_counts_19 kt_182 rfl rfl (fun v_3 => ?_)
    refine r_iload_n C 21 2 rfl dX12_counts_20 rfl ?_
    refine r_icmp_gt C 24 47 dX12_counts_21 (by decide) rfl (fun c_4 => ?_) (fun c_4 => ?_)
    · refine r_iconst C 48 (nI 0) (by decide) dX12_counts_47 rfl ?_
      exact r_zret C Rr (by decide) dX12_counts_48 (fun _ => rfl) rfl
    · refine r_aload_n C 25 0 rfl dX12_counts_24 rfl ?_
      refine r_getR C 28 dX12_counts_25 flX12_110 kt_151 rfl rf_151_59 rfl ?_
      refine r_iload_n C 29 1 rfl dX12_counts_28 rfl ?_
      refine r_iald C 30 dX12_counts_29 kt_183 rfl rfl (fun v_5 => ?_)
      refine imp_jn (fun (j_6 : Option Int32) =>  Imp κ 43 [] [] h (j_6)) ?_ ?_
      · refine r_iconst C 44 (nI 1) (by decide) dX12_counts_43 rfl ?_
        refine r_goto C 48 dX12_counts_44 (by decide) ?_
        exact r_zret C Rr (by decide) dX12_counts_48 (fun _ => rfl) rfl
      · intro j_6 hj_6
        refine r_if_lt C 33 43 dX12_counts_30 (by decide) rfl (fun c_7 => ?_) (fun c_7 => ?_)
        · exact imp_sub [] [] rfl (hj_6)
        · refine r_aload_n C 34 0 rfl dX12_counts_33 rfl ?_
          refine r_getR C 37 dX12_counts_34 flX12_110 kt_151 rfl rf_151_59 rfl ?_
          refine r_iload_n C 38 1 rfl dX12_counts_37 rfl ?_
          refine r_iald C 39 dX12_counts_38 kt_183 rfl rfl (fun v_8 => ?_)
          refine r_iload_n C 40 2 rfl dX12_counts_39 rfl ?_
          refine r_icmp_le C 43 47 dX12_counts_40 (by decide) rfl (fun c_9 => ?_) (fun c_9 => ?_)
          · exact imp_sub [] [] rfl (hj_6)
          · refine r_iconst C 48 (nI 0) (by decide) dX12_counts_47 rfl ?_
            exact r_zret C Rr (by decide) dX12_counts_48 (fun _ => rfl) rfl
set_option maxHeartbeats 4000000 in
theorem ok_f_X12_counts (x1 : Int32) (x2 : Int32)  (h : CH) : ∀ q, f_X12_counts x1 x2 h = some q → MG yX12_counts cX12_counts 3 (some .boolean) [] 2 (fun ad => [.ref (ad 151), .int x1, .int x2]) h ((fun (x : Int32) (_ : Nat → Nat) => some (Value.int x)) q) ((fun (_ : Int32) => h) q) := mg_of RX12 (by decide) rfl (fun _ => Nat.le_of_ble_eq_true rfl) (fun κ C Rr => imp_f_X12_counts C x1 x2 h Rr)
