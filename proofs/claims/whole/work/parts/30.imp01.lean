/-! the methods do what the functions say, by program -/
set_option maxHeartbeats 4000000 in
set_option maxRecDepth 100000 in
theorem imp_f_X0_developInto_L20 {κ : Kx (Unit × CH)} (C : Cx κ cX0_developInto RX0 9 3 (40 * 3) []) (q1 : Nat) (x2 : Int32) (x3 : Int32) (x4 : Int32) (x6 : Int32) (hq1 : KT.getD q1 (9, 0) = (1, 8) ∧ q1 < NP)   (Rr : Rt κ none (fun (_ : Unit × CH) (_ : Nat → Nat) => (none : Option Value)) (fun (q : (Unit × CH)) => q.2)) : ∀ (n : Nat) (x7 : Int32) (h : CH), Imp κ 20 [(0, .ref (kad κ 79)), (1, .ref (kad κ q1)), (2, .int (x2)), (3, .int (x3)), (4, .int (x4)), (6, .int (x6)), (7, .int (x7))] [] h (f_X0_developInto_L20 q1 x2 x3 x4 x6 n x7 h) := by
  intro n
  induction n with
  | zero => intros; exact imp_none
  | succ n ih =>
    intro x7 h
    rw [f_X0_developInto_L20]
    refine r_iload C 22 6 rfl dX0_developInto_20 rfl ?_
    refine r_bipush C 24 (nI 8) (by decide) dX0_developInto_22 rfl ?_
    refine r_icmp_ge C 27 83 dX0_developInto_24 (by decide) rfl (fun c_2 => ?_) (fun c_2 => ?_)
    · refine r_iload C 29 6 rfl dX0_developInto_27 rfl ?_
      refine r_aload_n C 30 1 rfl dX0_developInto_29 rfl ?_
      refine r_alenI C 31 (nI 8) dX0_developInto_30 hq1.1 (okid_lt hq1.2) (by decide) rfl ?_
      refine r_icmp_ge C 34 83 dX0_developInto_31 (by decide) rfl (fun c_3 => ?_) (fun c_3 => ?_)
      · refine r_iload C 36 6 rfl dX0_developInto_34 rfl ?_
        refine r_aload_n C 37 0 rfl dX0_developInto_36 rfl ?_
        refine r_getR C 40 dX0_developInto_37 flX0_15 kt_79 rfl rf_79_0 rfl ?_
        refine r_getI C 43 dX0_developInto_40 flX0_39 kt_7 rfl rfl ?_
        refine imp_jn (fun (j_5 : Int32 → Option (Unit × CH)) => ∀ (s_4 : Int32), Imp κ 63 [(0, .ref (kad κ 79)), (1, .ref (kad κ q1)), (2, .int (x2)), (3, .int (x3)), (4, .int (x4)), (6, .int (x6)), (7, .int (x7))] [.int (s_4)] h (j_5 s_4)) ?_ ?_
        · intro s_4
          refine r_istore C 65 [(8, .int (s_4)), (0, .ref (kad κ 79)), (1, .ref (kad κ q1)), (2, .int (x2)), (3, .int (x3)), (4, .int (x4)), (6, .int (x6)), (7, .int (x7))] dX0_developInto_63 (by decide) rfl rfl ?_
          refine r_aload_n C 66 2 rfl dX0_developInto_65 rfl ?_
          refine r_iload C 68 7 rfl dX0_developInto_66 rfl ?_
          refine r_iload C 70 0 rfl dX0_developInto_68 rfl ?_
          refine r_iload C 72 0 rfl dX0_developInto_70 rfl ?_
          refine r_iload C 74 6 rfl dX0_developInto_72 rfl ?_
          refine r_irem C 75 dX0_developInto_74 rfl ?_
          refine r_isub C 76 dX0_developInto_75 rfl ?_
          refine r_iast C 77 dX0_developInto_76 hq1.1 (okid_lt hq1.2) rfl (fun h_6 => ?_)
          refine r_iinc C 80 7 (nI 1) [(7, .int (x7 + (nI 1))), (8, .int (s_4)), (0, .ref (kad κ 79)), (1, .ref (kad κ q1)), (2, .int (x2)), (3, .int (x3)), (4, .int (x4)), (6, .int (x6))] dX0_developInto_77 rfl (by decide) (by decide) rfl rfl ?_
          refine r_goto C 20 dX0_developInto_80 (by decide) ?_
          exact imp_sub [(0, .ref (kad κ 79)), (1, .ref (kad κ q1)), (2, .int (x2)), (3, .int (x3)), (4, .int (x4)), (6, .int (x6)), (7, .int (x7 + (nI 1)))] [2, 3, 4, 5, 6, 7, 0] rfl (ih (x7 + (nI 1)) h_6)
        · intro j_5 hj_5
          refine r_icmp_ge C 46 62 dX0_developInto_43 (by decide) rfl (fun c_7 => ?_) (fun c_7 => ?_)
          · refine r_aload_n C 47 0 rfl dX0_developInto_46 rfl ?_
            refine r_getR C 50 dX0_developInto_47 flX0_15 kt_79 rfl rf_79_0 rfl ?_
            refine r_iload_n C 51 2 rfl dX0_developInto_50 rfl ?_
            refine r_iload_n C 52 3 rfl dX0_developInto_51 rfl ?_
            refine r_iload C 54 4 rfl dX0_developInto_52 rfl ?_
            refine r_iload C 56 6 rfl dX0_developInto_54 rfl ?_
            refine r_cVpI C 59 [] (ok_f_X9_mixed_7 x2 x3 x4 x7 h) dX0_developInto_56 lvX0_43 kt_7 rfl rfl rfl (by decide) (Nat.le_of_ble_eq_true rfl) rfl rfl (Nat.le_of_ble_eq_true rfl) rfl rfl (fun v_8 => ?_)
            refine r_goto C 63 dX0_developInto_59 (by decide) ?_
            exact imp_sub [(0, .ref (kad κ 79)), (1, .ref (kad κ q1)), (2, .int (x2)), (3, .int (x3)), (4, .int (x4)), (6, .int (x6)), (7, .int (x7))] [0, 1, 2, 3, 4, 5, 6] rfl (hj_5 (v_8))
          · refine r_iconst C 63 (nI 0) (by decide) dX0_developInto_62 rfl ?_
            exact imp_sub [(0, .ref (kad κ 79)), (1, .ref (kad κ q1)), (2, .int (x2)), (3, .int (x3)), (4, .int (x4)), (6, .int (x6)), (7, .int (x7))] [0, 1, 2, 3, 4, 5, 6] rfl (hj_5 ((nI 0)))
      · exact r_vret C Rr dX0_developInto_83 (fun _ => rfl) rfl
    · exact r_vret C Rr dX0_developInto_83 (fun _ => rfl) rfl
set_option maxHeartbeats 4000000 in
set_option maxRecDepth 100000 in
theorem imp_f_X0_developInto {κ : Kx (Unit × CH)} (C : Cx κ cX0_developInto RX0 9 3 (40 * 3) []) (ra : Nat) (x2 : Int32) (x3 : Int32) (x4 : Int32) (x5 : Int32) (hra : KT.getD ra (9, 0) = (1, 8) ∧ ra < NP) (h : CH) (Rr : Rt κ none (fun (_ : Unit × CH) (_ : Nat → Nat) => (none : Option Value)) (fun (q : (Unit × CH)) => q.2)) : Imp κ 0 [(0, .ref (kad κ 79)), (1, .ref (kad κ ra)), (2, .int (x2)), (3, .int (x3)), (4, .int (x4)), (5, .int (x5))] [] h (f_X0_developInto ra x2 x3 x4 x5 h) := by
  unfold f_X0_developInto
  refine r_iconst C 1 (nI 0) (by decide) dX0_developInto_0 rfl ?_
  refine r_aload_n C 2 0 rfl dX0_developInto_1 rfl ?_
  refine r_getR C 5 dX0_developInto_2 flX0_15 kt_79 rfl rf_79_0 rfl ?_
  refine r_iload C 7 5 rfl dX0_developInto_5 rfl ?_
  refine r_cVpI C 10 [.int ((nI 0))] (ok_f_X9_blurOf_7 x5 h) dX0_developInto_7 lvX0_27 kt_7 rfl rfl rfl (by decide) (Nat.le_of_ble_eq_true rfl) rfl rfl (Nat.le_of_ble_eq_true rfl) rfl rfl (fun v_1 => ?_)
  refine r_mmax C 13 dX0_developInto_10 lmX0_33 (Nat.le_of_ble_eq_true rfl) (by decide) rfl ?_
  refine r_iconst C 14 (nI 1) (by decide) dX0_developInto_13 rfl ?_
  refine r_iadd C 15 dX0_developInto_14 rfl ?_
  refine r_istore C 17 [(6, .int ((mx ((nI 0)) (v_1)) + ((nI 1)))), (0, .ref (kad κ 79)), (1, .ref (kad κ ra)), (2, .int (x2)), (3, .int (x3)), (4, .int (x4)), (5, .int (x5))] dX0_developInto_15 (by decide) rfl rfl ?_
  refine r_iconst C 18 (nI 0) (by decide) dX0_developInto_17 rfl ?_
  refine r_istore C 20 [(7, .int ((nI 0))), (6, .int ((mx ((nI 0)) (v_1)) + ((nI 1)))), (0, .ref (kad κ 79)), (1, .ref (kad κ ra)), (2, .int (x2)), (3, .int (x3)), (4, .int (x4)), (5, .int (x5))] dX0_developInto_18 (by decide) rfl rfl ?_
  refine imp_sub [(0, .ref (kad κ 79)), (1, .ref (kad κ ra)), (2, .int (x2)), (3, .int (x3)), (4, .int (x4)), (6, .int ((mx ((nI 0)) (v_1)) + ((nI 1)))), (7, .int ((nI 0)))] [2, 3, 4, 5, 6, 1, 0] rfl ?_
  refine imp_f_X0_developInto_L20 C ra (x2) (x3) (x4) ((mx ((nI 0)) (v_1)) + ((nI 1))) hra Rr FU ((nI 0)) h
set_option maxHeartbeats 4000000 in
theorem ok_f_X0_developInto (ra : Nat) (x2 : Int32) (x3 : Int32) (x4 : Int32) (x5 : Int32) (hra : KT.getD ra (9, 0) = (1, 8) ∧ ra < NP) (h : CH) : ∀ q, f_X0_developInto ra x2 x3 x4 x5 h = some q → MG yX0_developInto cX0_developInto 9 none [] 3 (fun ad => [.ref (ad 79), .ref (ad ra), .int x2, .int x3, .int x4, .int x5]) h ((fun (_ : Unit × CH) (_ : Nat → Nat) => (none : Option Value)) q) ((fun (q : (Unit × CH)) => q.2) q) := mg_of RX0 (by decide) rfl (fun _ => Nat.le_of_ble_eq_true rfl) (fun κ C Rr => imp_f_X0_developInto C ra x2 x3 x4 x5 hra h Rr)
set_option maxHeartbeats 4000000 in
set_option maxRecDepth 100000 in
theorem imp_f_X0_develop {κ : Kx (Unit × CH)} (C : Cx κ cX0_develop RX0 5 4 (40 * 4) []) (x1 : Int32) (x2 : Int32) (x3 : Int32) (x4 : Int32)  (h : CH) (Rr : Rt κ (some (.array .int)) (fun (_ : Unit × CH) (ad : Nat → Nat) => some (Value.ref (ad 80))) (fun (q : (Unit × CH)) => q.2)) : Imp κ 0 [(0, .ref (kad κ 79)), (1, .int (x1)), (2, .int (x2)), (3, .int (x3)), (4, .int (x4))] [] h (f_X0_develop x1 x2 x3 x4 h) := by
  unfold f_X0_develop
  refine r_aload_n C 1 0 rfl dX0_develop_0 rfl ?_
  refine r_aload_n C 2 0 rfl dX0_develop_1 rfl ?_
  refine r_getR C 5 dX0_develop_2 flX0_9 kt_79 rfl rf_79_2 rfl ?_
  refine r_iload_n C 6 1 rfl dX0_develop_5 rfl ?_
  refine r_iload_n C 7 2 rfl dX0_develop_6 rfl ?_
  refine r_iload_n C 8 3 rfl dX0_develop_7 rfl ?_
  refine r_iload C 10 4 rfl dX0_develop_8 rfl ?_
  refine r_cViV C 13 [] (ok_f_X0_developInto 80 x1 x2 x3 x4 ⟨kt_80, by decide⟩ h) dX0_develop_10 lvX0_23 kt_79 rfl rfl rfl (by decide) (Nat.le_of_ble_eq_true rfl) rfl rfl (Nat.le_of_ble_eq_true rfl) rfl rfl (fun _ h_1 => ?_)
  refine r_aload_n C 14 0 rfl dX0_develop_13 rfl ?_
  refine r_getR C 17 dX0_develop_14 flX0_9 kt_79 rfl rf_79_2 rfl ?_
  exact r_aret C Rr (Or.inr ⟨_, rfl⟩) (Or.inr ⟨_, rfl⟩) dX0_develop_17 rfl rfl
set_option maxHeartbeats 4000000 in
theorem ok_f_X0_develop (x1 : Int32) (x2 : Int32) (x3 : Int32) (x4 : Int32)  (h : CH) : ∀ q, f_X0_develop x1 x2 x3 x4 h = some q → MG yX0_develop cX0_develop 5 (some (.array .int)) [] 4 (fun ad => [.ref (ad 79), .int x1, .int x2, .int x3, .int x4]) h ((fun (_ : Unit × CH) (ad : Nat → Nat) => some (Value.ref (ad 80))) q) ((fun (q : (Unit × CH)) => q.2) q) := mg_of RX0 (by decide) rfl (fun _ => Nat.le_of_ble_eq_true rfl) (fun κ C Rr => imp_f_X0_develop C x1 x2 x3 x4 h Rr)
set_option maxHeartbeats 4000000 in
set_option maxRecDepth 100000 in
theorem imp_f_X11_mix {κ : Kx (Int32 × CH)} (C : Cx κ cX11_mix RX11 6 5 (40 * 5) []) (x1 : Int32) (x2 : Int32) (x3 : Int32) (x4 : Int32) (x5 : Int32)  (h : CH) (Rr : Rt κ (some .int) (fun (q : Int32 × CH) (_ : Nat → Nat) => some (Value.int q.1)) (fun (q : (Int32 × CH)) => q.2)) : Imp κ 0 [(0, .ref (kad κ 0)), (1, .int (x1)), (2, .int (x2)), (3, .int (x3)), (4, .int (x4)), (5, .int (x5))] [] h (f_X11_mix x1 x2 x3 x4 x5 h) := by
  unfold f_X11_mix
  refine r_aload_n C 1 0 rfl dX11_mix_0 rfl ?_
  refine r_iload_n C 2 1 rfl dX11_mix_1 rfl ?_
  refine r_iload_n C 3 2 rfl dX11_mix_2 rfl ?_
  refine r_iload_n C 4 3 rfl dX11_mix_3 rfl ?_
  refine r_cVpI C 7 [] (ok_f_X11_isMix x1 x2 x3 h) dX11_mix_4 lvX11_187 kt_0 rfl rfl rfl (by decide) (Nat.le_of_ble_eq_true rfl) rfl rfl (Nat.le_of_ble_eq_true rfl) rfl rfl (fun v_1 => ?_)
  refine r_if_eq C 10 35 dX11_mix_7 (by decide) rfl (fun c_2 => ?_) (fun c_2 => ?_)
  · refine r_iconst C 36 (-1) (by decide) dX11_mix_35 rfl ?_
    exact r_iret C Rr dX11_mix_36 (fun _ => rfl) rfl
  · refine r_iload C 12 4 rfl dX11_mix_10 rfl ?_
    refine r_cSpI C 15 [] (ok_f_X11_isPrinterOrNot x4 h) dX11_mix_12 lsX11_191 rfl (by decide) (Nat.le_of_ble_eq_true rfl) rfl rfl (Nat.le_of_ble_eq_true rfl) rfl rfl (fun v_3 => ?_)
    refine r_if_eq C 18 35 dX11_mix_15 (by decide) rfl (fun c_4 => ?_) (fun c_4 => ?_)
    · refine r_iconst C 36 (-1) (by decide) dX11_mix_35 rfl ?_
      exact r_iret C Rr dX11_mix_36 (fun _ => rfl) rfl
    · refine r_iload C 20 5 rfl dX11_mix_18 rfl ?_
      refine r_if_lt C 23 35 dX11_mix_20 (by decide) rfl (fun c_5 => ?_) (fun c_5 => ?_)
      · refine r_iconst C 36 (-1) (by decide) dX11_mix_35 rfl ?_
        exact r_iret C Rr dX11_mix_36 (fun _ => rfl) rfl
      · refine r_iload C 25 5 rfl dX11_mix_23 rfl ?_
        refine r_aload_n C 26 0 rfl dX11_mix_25 rfl ?_
        refine r_getR C 29 dX11_mix_26 flX11_35 kt_0 rfl rf_0_5 rfl ?_
        refine r_getI C 32 dX11_mix_29 flX11_144 kt_7 rfl rfl ?_
        refine r_icmp_lt C 35 37 dX11_mix_32 (by decide) rfl (fun c_6 => ?_) (fun c_6 => ?_)
        · refine r_aload_n C 38 0 rfl dX11_mix_37 rfl ?_
          refine r_getR C 41 dX11_mix_38 flX11_68 kt_0 rfl rf_0_11 rfl ?_
          refine r_iload_n C 42 1 rfl dX11_mix_41 rfl ?_
          refine r_iload_n C 43 2 rfl dX11_mix_42 rfl ?_
          refine r_iload_n C 44 3 rfl dX11_mix_43 rfl ?_
          refine r_iload C 46 4 rfl dX11_mix_44 rfl ?_
          refine r_cViR C 49 [] (ok_f_X0_develop x1 x2 x3 x4 h) dX11_mix_46 lvX11_194 kt_79 rfl rfl rfl (by decide) (Nat.le_of_ble_eq_true rfl) rfl rfl (Nat.le_of_ble_eq_true rfl) rfl rfl (fun _ h_7 => ?_)
          refine r_iload C 51 5 rfl dX11_mix_49 rfl ?_
          refine r_iald C 52 dX11_mix_51 kt_80 rfl rfl (fun v_8 => ?_)
          exact r_iret C Rr dX11_mix_52 (fun _ => rfl) rfl
        · refine r_iconst C 36 (-1) (by decide) dX11_mix_35 rfl ?_
          exact r_iret C Rr dX11_mix_36 (fun _ => rfl) rfl
set_option maxHeartbeats 4000000 in
theorem ok_f_X11_mix (x1 : Int32) (x2 : Int32) (x3 : Int32) (x4 : Int32) (x5 : Int32)  (h : CH) : ∀ q, f_X11_mix x1 x2 x3 x4 x5 h = some q → MG yX11_mix cX11_mix 6 (some .int) [] 5 (fun ad => [.ref (ad 0), .int x1, .int x2, .int x3, .int x4, .int x5]) h ((fun (q : Int32 × CH) (_ : Nat → Nat) => some (Value.int q.1)) q) ((fun (q : (Int32 × CH)) => q.2) q) := mg_of RX11 (by decide) rfl (fun _ => Nat.le_of_ble_eq_true rfl) (fun κ C Rr => imp_f_X11_mix C x1 x2 x3 x4 x5 h Rr)
set_option maxHeartbeats 4000000 in
set_option maxRecDepth 100000 in
theorem imp_f_X1_makeMix_L3 {κ : Kx (Unit × CH)} (C : Cx κ cX1_makeMix RX1 5 3 (40 * 3) []) (x1 : Int32) (x2 : Int32) (x3 : Int32)    (Rr : Rt κ none (fun (_ : Unit × CH) (_ : Nat → Nat) => (none : Option Value)) (fun (q : (Unit × CH)) => q.2)) : ∀ (n : Nat) (x4 : Int32) (h : CH), Imp κ 3 [(0, .ref (kad κ 81)), (1, .int (x1)), (2, .int (x2)), (3, .int (x3)), (4, .int (x4))] [] h (f_X1_makeMix_L3 x1 x2 x3 n x4 h) := by
  intro n
  induction n with
  | zero => intros; exact imp_none
  | succ n ih =>
    intro x4 h
    rw [f_X1_makeMix_L3]
    refine r_iload C 5 4 rfl dX1_makeMix_3 rfl ?_
    refine r_aload_n C 6 0 rfl dX1_makeMix_5 rfl ?_
    refine r_getR C 9 dX1_makeMix_6 flX1_30 kt_81 rfl rf_81_0 rfl ?_
    refine r_getI C 12 dX1_makeMix_9 flX1_43 kt_7 rfl rfl ?_
    refine r_icmp_ge C 15 47 dX1_makeMix_12 (by decide) rfl (fun c_1 => ?_) (fun c_1 => ?_)
    · refine r_iload C 17 4 rfl dX1_makeMix_15 rfl ?_
      refine r_bipush C 19 (nI 8) (by decide) dX1_makeMix_17 rfl ?_
      refine r_icmp_ge C 22 47 dX1_makeMix_19 (by decide) rfl (fun c_2 => ?_) (fun c_2 => ?_)
      · refine r_aload_n C 23 0 rfl dX1_makeMix_22 rfl ?_
        refine r_getR C 26 dX1_makeMix_23 flX1_19 kt_81 rfl rf_81_4 rfl ?_
        refine r_iload C 28 4 rfl dX1_makeMix_26 rfl ?_
        refine r_aload_n C 29 0 rfl dX1_makeMix_28 rfl ?_
        refine r_getR C 32 dX1_makeMix_29 flX1_30 kt_81 rfl rf_81_0 rfl ?_
        refine r_iload_n C 33 1 rfl dX1_makeMix_32 rfl ?_
        refine r_iload_n C 34 2 rfl dX1_makeMix_33 rfl ?_
        refine r_iload_n C 35 3 rfl dX1_makeMix_34 rfl ?_
        refine r_iload C 37 4 rfl dX1_makeMix_35 rfl ?_
        refine r_cVpI C 40 [.int (x4), .ref (kad κ 116)] (ok_f_X9_mixed_7 x1 x2 x3 x4 h) dX1_makeMix_37 lvX1_80 kt_7 rfl rfl rfl (by decide) (Nat.le_of_ble_eq_true rfl) rfl rfl (Nat.le_of_ble_eq_true rfl) rfl rfl (fun v_3 => ?_)
        refine r_iast C 41 dX1_makeMix_40 kt_116 rfl rfl (fun h_4 => ?_)
        refine r_iinc C 44 4 (nI 1) [(4, .int (x4 + (nI 1))), (0, .ref (kad κ 81)), (1, .int (x1)), (2, .int (x2)), (3, .int (x3))] dX1_makeMix_41 rfl (by decide) (by decide) rfl rfl ?_
        refine r_goto C 3 dX1_makeMix_44 (by decide) ?_
        exact imp_sub [(0, .ref (kad κ 81)), (1, .int (x1)), (2, .int (x2)), (3, .int (x3)), (4, .int (x4 + (nI 1)))] [1, 2, 3, 4, 0] rfl (ih (x4 + (nI 1)) h_4)
      · exact r_vret C Rr dX1_makeMix_47 (fun _ => rfl) rfl
    · exact r_vret C Rr dX1_makeMix_47 (fun _ => rfl) rfl
set_option maxHeartbeats 4000000 in
set_option maxRecDepth 100000 in
theorem imp_f_X1_makeMix {κ : Kx (Unit × CH)} (C : Cx κ cX1_makeMix RX1 5 3 (40 * 3) []) (x1 : Int32) (x2 : Int32) (x3 : Int32)  (h : CH) (Rr : Rt κ none (fun (_ : Unit × CH) (_ : Nat → Nat) => (none : Option Value)) (fun (q : (Unit × CH)) => q.2)) : Imp κ 0 [(0, .ref (kad κ 81)), (1, .int (x1)), (2, .int (x2)), (3, .int (x3))] [] h (f_X1_makeMix x1 x2 x3 h) := by
  unfold f_X1_makeMix
  refine r_iconst C 1 (nI 0) (by decide) dX1_makeMix_0 rfl ?_
  refine r_istore C 3 [(4, .int ((nI 0))), (0, .ref (kad κ 81)), (1, .int (x1)), (2, .int (x2)), (3, .int (x3))] dX1_makeMix_1 (by decide) rfl rfl ?_
  refine imp_sub [(0, .ref (kad κ 81)), (1, .int (x1)), (2, .int (x2)), (3, .int (x3)), (4, .int ((nI 0)))] [1, 2, 3, 4, 0] rfl ?_
  refine imp_f_X1_makeMix_L3 C (x1) (x2) (x3) Rr FU ((nI 0)) h
set_option maxHeartbeats 4000000 in
theorem ok_f_X1_makeMix (x1 : Int32) (x2 : Int32) (x3 : Int32)  (h : CH) : ∀ q, f_X1_makeMix x1 x2 x3 h = some q → MG yX1_makeMix cX1_makeMix 5 none [] 3 (fun ad => [.ref (ad 81), .int x1, .int x2, .int x3]) h ((fun (_ : Unit × CH) (_ : Nat → Nat) => (none : Option Value)) q) ((fun (q : (Unit × CH)) => q.2) q) := mg_of RX1 (by decide) rfl (fun _ => Nat.le_of_ble_eq_true rfl) (fun κ C Rr => imp_f_X1_makeMix C x1 x2 x3 h Rr)
set_option maxHeartbeats 4000000 in
set_option maxRecDepth 100000 in
theorem imp_f_X1_apartFromMix {κ : Kx Int32} (C : Cx κ cX1_apartFromMix RX1 2 3 (40 * 3) []) (x1 : Int32)  (h : CH) (Rr : Rt κ (some .int) (fun (x : Int32) (_ : Nat → Nat) => some (Value.int x)) (fun (_ : Int32) => h)) : Imp κ 0 [(0, .ref (kad κ 81)), (1, .int (x1))] [] h (f_X1_apartFromMix x1 h) := by
  unfold f_X1_apartFromMix
  refine r_aload_n C 1 0 rfl dX1_apartFromMix_0 rfl ?_
  refine r_getR C 4 dX1_apartFromMix_1 flX1_30 kt_81 rfl rf_81_0 rfl ?_
  refine r_iload_n C 5 1 rfl dX1_apartFromMix_4 rfl ?_
  refine r_cVpI C 8 [] (ok_f_X9_has_7 x1 h) dX1_apartFromMix_5 lvX1_56 kt_7 rfl rfl rfl (by decide) (Nat.le_of_ble_eq_true rfl) rfl rfl (Nat.le_of_ble_eq_true rfl) rfl rfl (fun v_1 => ?_)
  refine r_if_eq C 11 31 dX1_apartFromMix_8 (by decide) rfl (fun c_2 => ?_) (fun c_2 => ?_)
  · refine r_iconst C 32 (nI 0) (by decide) dX1_apartFromMix_31 rfl ?_
    exact r_iret C Rr dX1_apartFromMix_32 (fun _ => rfl) rfl
  · refine r_aload_n C 12 0 rfl dX1_apartFromMix_11 rfl ?_
    refine r_getR C 15 dX1_apartFromMix_12 flX1_30 kt_81 rfl rf_81_0 rfl ?_
    refine r_aload_n C 16 0 rfl dX1_apartFromMix_15 rfl ?_
    refine r_getR C 19 dX1_apartFromMix_16 flX1_11 kt_81 rfl rf_81_2 rfl ?_
    refine r_iload_n C 20 1 rfl dX1_apartFromMix_19 rfl ?_
    refine r_aald C 21 dX1_apartFromMix_20 kt_82 rfl rq_82 kq_82 rfl (fun q_3 hq_3 => ?_)
    refine r_aload_n C 22 0 rfl dX1_apartFromMix_21 rfl ?_
    refine r_getR C 25 dX1_apartFromMix_22 flX1_19 kt_81 rfl rf_81_4 rfl ?_
    refine r_cVpI C 28 [] (ok_f_X9_apart_7 q_3 116 hq_3 ⟨kt_116, by decide⟩ h) dX1_apartFromMix_25 lvX1_60 kt_7 rfl rfl rfl (by decide) (Nat.le_of_ble_eq_true rfl) rfl rfl (Nat.le_of_ble_eq_true rfl) rfl rfl (fun v_4 => ?_)
    refine r_goto C 32 dX1_apartFromMix_28 (by decide) ?_
    exact r_iret C Rr dX1_apartFromMix_32 (fun _ => rfl) rfl
set_option maxHeartbeats 4000000 in
theorem ok_f_X1_apartFromMix (x1 : Int32)  (h : CH) : ∀ q, f_X1_apartFromMix x1 h = some q → MG yX1_apartFromMix cX1_apartFromMix 2 (some .int) [] 3 (fun ad => [.ref (ad 81), .int x1]) h ((fun (x : Int32) (_ : Nat → Nat) => some (Value.int x)) q) ((fun (_ : Int32) => h) q) := mg_of RX1 (by decide) rfl (fun _ => Nat.le_of_ble_eq_true rfl) (fun κ C Rr => imp_f_X1_apartFromMix C x1 h Rr)
set_option maxHeartbeats 4000000 in
set_option maxRecDepth 100000 in
theorem imp_f_X1_whoPasses {κ : Kx (Int32 × CH)} (C : Cx κ cX1_whoPasses RX1 6 5 (40 * 5) []) (x1 : Int32) (x2 : Int32) (x3 : Int32)  (h : CH) (Rr : Rt κ (some .int) (fun (q : Int32 × CH) (_ : Nat → Nat) => some (Value.int q.1)) (fun (q : (Int32 × CH)) => q.2)) : Imp κ 0 [(0, .ref (kad κ 81)), (1, .int (x1)), (2, .int (x2)), (3, .int (x3))] [] h (f_X1_whoPasses x1 x2 x3 h) := by
  unfold f_X1_whoPasses
  refine r_aload_n C 1 0 rfl dX1_whoPasses_0 rfl ?_
  refine r_iload_n C 2 1 rfl dX1_whoPasses_1 rfl ?_
  refine r_iload_n C 3 2 rfl dX1_whoPasses_2 rfl ?_
  refine r_iload_n C 4 3 rfl dX1_whoPasses_3 rfl ?_
  refine r_cViV C 7 [] (ok_f_X1_makeMix x1 x2 x3 h) dX1_whoPasses_4 lvX1_84 kt_81 rfl rfl rfl (by decide) (Nat.le_of_ble_eq_true rfl) rfl rfl (Nat.le_of_ble_eq_true rfl) rfl rfl (fun _ h_1 => ?_)
  refine r_aload_n C 8 0 rfl dX1_whoPasses_7 rfl ?_
  refine r_iload_n C 9 1 rfl dX1_whoPasses_8 rfl ?_
  refine r_aload_n C 10 0 rfl dX1_whoPasses_9 rfl ?_
  refine r_iload_n C 11 1 rfl dX1_whoPasses_10 rfl ?_
  refine r_cVpI C 14 [.int (x1), .ref (kad κ 81)] (ok_f_X1_apartFromMix x1 h_1) dX1_whoPasses_11 lvX1_88 kt_81 rfl rfl rfl (by decide) (Nat.le_of_ble_eq_true rfl) rfl rfl (Nat.le_of_ble_eq_true rfl) rfl rfl (fun v_2 => ?_)
  refine r_cViI C 17 [] (ok_f_X1_lets x1 v_2 h_1) dX1_whoPasses_14 lvX1_67 kt_81 rfl rfl rfl (by decide) (Nat.le_of_ble_eq_true rfl) rfl rfl (Nat.le_of_ble_eq_true rfl) rfl rfl (fun v_3 h_4 => ?_)
  refine imp_jn (fun (j_6 : Int32 → Option (Int32 × CH)) => ∀ (s_5 : Int32), Imp κ 25 [(0, .ref (kad κ 81)), (2, .int (x2))] [.int (s_5)] h_4 (j_6 s_5)) ?_ ?_
  · intro s_5
    refine r_istore C 27 [(4, .int (s_5)), (0, .ref (kad κ 81)), (2, .int (x2))] dX1_whoPasses_25 (by decide) rfl rfl ?_
    refine r_aload_n C 28 1 rfl dX1_whoPasses_27 rfl ?_
    refine r_iload_n C 29 2 rfl dX1_whoPasses_28 rfl ?_
    refine r_aload_n C 30 1 rfl dX1_whoPasses_29 rfl ?_
    refine r_iload_n C 31 2 rfl dX1_whoPasses_30 rfl ?_
    refine r_cVpI C 34 [.int (x2), .ref (kad κ 81)] (ok_f_X1_apartFromMix x2 h_4) dX1_whoPasses_31 lvX1_88 kt_81 rfl rfl rfl (by decide) (Nat.le_of_ble_eq_true rfl) rfl rfl (Nat.le_of_ble_eq_true rfl) rfl rfl (fun v_7 => ?_)
    refine r_cViI C 37 [] (ok_f_X1_lets x2 v_7 h_4) dX1_whoPasses_34 lvX1_67 kt_81 rfl rfl rfl (by decide) (Nat.le_of_ble_eq_true rfl) rfl rfl (Nat.le_of_ble_eq_true rfl) rfl rfl (fun v_8 h_9 => ?_)
    refine imp_jn (fun (j_11 : Int32 → Option (Int32 × CH)) => ∀ (s_10 : Int32), Imp κ 45 [(4, .int (s_5))] [.int (s_10)] h_9 (j_11 s_10)) ?_ ?_
    · intro s_10
      refine r_istore C 47 [(5, .int (s_10)), (4, .int (s_5))] dX1_whoPasses_45 (by decide) rfl rfl ?_
      refine r_iload C 49 1 rfl dX1_whoPasses_47 rfl ?_
      refine r_iload C 51 0 rfl dX1_whoPasses_49 rfl ?_
      refine r_iadd C 52 dX1_whoPasses_51 rfl ?_
      exact r_iret C Rr dX1_whoPasses_52 (fun _ => rfl) rfl
    · intro j_11 hj_11
      refine r_if_eq C 40 44 dX1_whoPasses_37 (by decide) rfl (fun c_12 => ?_) (fun c_12 => ?_)
      · refine r_iconst C 45 (nI 0) (by decide) dX1_whoPasses_44 rfl ?_
        exact imp_sub [(4, .int (s_5))] [0] rfl (hj_11 ((nI 0)))
      · refine r_iconst C 41 (nI 2) (by decide) dX1_whoPasses_40 rfl ?_
        refine r_goto C 45 dX1_whoPasses_41 (by decide) ?_
        exact imp_sub [(4, .int (s_5))] [0] rfl (hj_11 ((nI 2)))
  · intro j_6 hj_6
    refine r_if_eq C 20 24 dX1_whoPasses_17 (by decide) rfl (fun c_13 => ?_) (fun c_13 => ?_)
    · refine r_iconst C 25 (nI 0) (by decide) dX1_whoPasses_24 rfl ?_
      exact imp_sub [(0, .ref (kad κ 81)), (2, .int (x2))] [0, 2] rfl (hj_6 ((nI 0)))
    · refine r_iconst C 21 (nI 1) (by decide) dX1_whoPasses_20 rfl ?_
      refine r_goto C 25 dX1_whoPasses_21 (by decide) ?_
      exact imp_sub [(0, .ref (kad κ 81)), (2, .int (x2))] [0, 2] rfl (hj_6 ((nI 1)))
set_option maxHeartbeats 4000000 in
theorem ok_f_X1_whoPasses (x1 : Int32) (x2 : Int32) (x3 : Int32)  (h : CH) : ∀ q, f_X1_whoPasses x1 x2 x3 h = some q → MG yX1_whoPasses cX1_whoPasses 6 (some .int) [] 5 (fun ad => [.ref (ad 81), .int x1, .int x2, .int x3]) h ((fun (q : Int32 × CH) (_ : Nat → Nat) => some (Value.int q.1)) q) ((fun (q : (Int32 × CH)) => q.2) q) := mg_of RX1 (by decide) rfl (fun _ => Nat.le_of_ble_eq_true rfl) (fun κ C Rr => imp_f_X1_whoPasses C x1 x2 x3 h Rr)
set_option maxHeartbeats 4000000 in
set_option maxRecDepth 100000 in
theorem imp_f_X11_both {κ : Kx (Int32 × CH)} (C : Cx κ cX11_both RX11 6 6 (40 * 6) []) (x1 : Int32) (x2 : Int32) (x3 : Int32) (x4 : Int32) (x5 : Int32)  (h : CH) (Rr : Rt κ (some .int) (fun (q : Int32 × CH) (_ : Nat → Nat) => some (Value.int q.1)) (fun (q : (Int32 × CH)) => q.2)) : Imp κ 0 [(0, .ref (kad κ 0)), (1, .int (x1)), (2, .int (x2)), (3, .int (x3)), (4, .int (x4)), (5, .int (x5))] [] h (f_X11_both x1 x2 x3 x4 x5 h) := by
  unfold f_X11_both
  refine r_aload_n C 1 0 rfl dX11_both_0 rfl ?_
  refine r_iload_n C 2 1 rfl dX11_both_1 rfl ?_
  refine r_iload_n C 3 2 rfl dX11_both_2 rfl ?_
  refine r_iload_n C 4 3 rfl dX11_both_3 rfl ?_
  refine r_cVpI C 7 [] (ok_f_X11_isMix x1 x2 x3 h) dX11_both_4 lvX11_187 kt_0 rfl rfl rfl (by decide) (Nat.le_of_ble_eq_true rfl) rfl rfl (Nat.le_of_ble_eq_true rfl) rfl rfl (fun v_1 => ?_)
  refine r_if_eq C 10 20 dX11_both_7 (by decide) rfl (fun c_2 => ?_) (fun c_2 => ?_)
  · refine r_iconst C 21 (-1) (by decide) dX11_both_20 rfl ?_
    exact r_iret C Rr dX11_both_21 (fun _ => rfl) rfl
  · refine r_iload C 12 4 rfl dX11_both_10 rfl ?_
    refine r_iload C 14 5 rfl dX11_both_12 rfl ?_
    refine r_cSpI C 17 [] (ok_f_X11_isWhen x4 x5 h) dX11_both_14 lsX11_177 rfl (by decide) (Nat.le_of_ble_eq_true rfl) rfl rfl (Nat.le_of_ble_eq_true rfl) rfl rfl (fun v_3 => ?_)
    refine r_if_ne C 20 22 dX11_both_17 (by decide) rfl (fun c_4 => ?_) (fun c_4 => ?_)
    · refine r_iconst C 21 (-1) (by decide) dX11_both_20 rfl ?_
      exact r_iret C Rr dX11_both_21 (fun _ => rfl) rfl
    · refine r_aload_n C 23 0 rfl dX11_both_22 rfl ?_
      refine r_getR C 26 dX11_both_23 flX11_75 kt_0 rfl rf_0_12 rfl ?_
      refine r_iload C 28 4 rfl dX11_both_26 rfl ?_
      refine r_iload C 30 5 rfl dX11_both_28 rfl ?_
      refine r_cViV C 33 [] (ok_f_X1_open x4 x5 h) dX11_both_30 lvX11_181 kt_81 rfl rfl rfl (by decide) (Nat.le_of_ble_eq_true rfl) rfl rfl (Nat.le_of_ble_eq_true rfl) rfl rfl (fun _ h_5 => ?_)
      refine r_aload_n C 34 0 rfl dX11_both_33 rfl ?_
      refine r_getR C 37 dX11_both_34 flX11_75 kt_0 rfl rf_0_12 rfl ?_
      refine r_iload_n C 38 1 rfl dX11_both_37 rfl ?_
      refine r_iload_n C 39 2 rfl dX11_both_38 rfl ?_
      refine r_iload_n C 40 3 rfl dX11_both_39 rfl ?_
      refine r_cViI C 43 [] (ok_f_X1_whoPasses x1 x2 x3 h_5) dX11_both_40 lvX11_198 kt_81 rfl rfl rfl (by decide) (Nat.le_of_ble_eq_true rfl) rfl rfl (Nat.le_of_ble_eq_true rfl) rfl rfl (fun v_6 h_7 => ?_)
      exact r_iret C Rr dX11_both_43 (fun _ => rfl) rfl
set_option maxHeartbeats 4000000 in
theorem ok_f_X11_both (x1 : Int32) (x2 : Int32) (x3 : Int32) (x4 : Int32) (x5 : Int32)  (h : CH) : ∀ q, f_X11_both x1 x2 x3 x4 x5 h = some q → MG yX11_both cX11_both 6 (some .int) [] 6 (fun ad => [.ref (ad 0), .int x1, .int x2, .int x3, .int x4, .int x5]) h ((fun (q : Int32 × CH) (_ : Nat → Nat) => some (Value.int q.1)) q) ((fun (q : (Int32 × CH)) => q.2) q) := mg_of RX11 (by decide) rfl (fun _ => Nat.le_of_ble_eq_true rfl) (fun κ C Rr => imp_f_X11_both C x1 x2 x3 x4 x5 h Rr)
set_option maxHeartbeats 4000000 in
set_option maxRecDepth 100000 in
theorem imp_f_X1_bestShare_L8 {κ : Kx (Int32 × CH)} (C : Cx κ cX1_bestShare RX1 9 5 (40 * 5) []) (x1 : Int32) (x2 : Int32)    (Rr : Rt κ (some .int) (fun (q : Int32 × CH) (_ : Nat → Nat) => some (Value.int q.1)) (fun (q : (Int32 × CH)) => q.2)) : ∀ (n : Nat) (x3 : Int32) (x4 : Int32) (x5 : Int32) (h : CH), Imp κ 8 [(0, .ref (kad κ 81)), (1, .int (x1)), (2, .int (x2)), (3, .int (x3)), (4, .int (x4)), (5, .int (x5))] [] h (f_X1_bestShare_L8 x1 x2 n x3 x4 x5 h) := by
  intro n
  induction n with
  | zero => intros; exact imp_none
  | succ n ih =>
    intro x3 x4 x5 h
    rw [f_X1_bestShare_L8]
    refine r_iload C 10 5 rfl dX1_bestShare_8 rfl ?_
    refine r_bipush C 12 (nI 10) (by decide) dX1_bestShare_10 rfl ?_
    refine r_icmp_gt C 15 91 dX1_bestShare_12 (by decide) rfl (fun c_1 => ?_) (fun c_1 => ?_)
    · refine r_iload_n C 92 3 rfl dX1_bestShare_91 rfl ?_
      exact r_iret C Rr dX1_bestShare_92 (fun _ => rfl) rfl
    · refine r_aload_n C 16 0 rfl dX1_bestShare_15 rfl ?_
      refine r_iload_n C 17 1 rfl dX1_bestShare_16 rfl ?_
      refine r_iload_n C 18 2 rfl dX1_bestShare_17 rfl ?_
      refine r_iload C 20 5 rfl dX1_bestShare_18 rfl ?_
      refine r_cViV C 23 [] (ok_f_X1_makeMix x1 x2 x5 h) dX1_bestShare_20 lvX1_84 kt_81 rfl rfl rfl (by decide) (Nat.le_of_ble_eq_true rfl) rfl rfl (Nat.le_of_ble_eq_true rfl) rfl rfl (fun _ h_2 => ?_)
      refine r_aload_n C 24 0 rfl dX1_bestShare_23 rfl ?_
      refine r_iload_n C 25 1 rfl dX1_bestShare_24 rfl ?_
      refine r_cVpI C 28 [] (ok_f_X1_apartFromMix x1 h_2) dX1_bestShare_25 lvX1_88 kt_81 rfl rfl rfl (by decide) (Nat.le_of_ble_eq_true rfl) rfl rfl (Nat.le_of_ble_eq_true rfl) rfl rfl (fun v_3 => ?_)
      refine r_istore C 30 [(6, .int (v_3)), (0, .ref (kad κ 81)), (1, .int (x1)), (2, .int (x2)), (3, .int (x3)), (4, .int (x4)), (5, .int (x5))] dX1_bestShare_28 (by decide) rfl rfl ?_
      refine r_aload_n C 31 1 rfl dX1_bestShare_30 rfl ?_
      refine r_iload_n C 32 3 rfl dX1_bestShare_31 rfl ?_
      refine r_cVpI C 35 [] (ok_f_X1_apartFromMix x2 h_2) dX1_bestShare_32 lvX1_88 kt_81 rfl rfl rfl (by decide) (Nat.le_of_ble_eq_true rfl) rfl rfl (Nat.le_of_ble_eq_true rfl) rfl rfl (fun v_4 => ?_)
      refine r_istore C 37 [(7, .int (v_4)), (6, .int (v_3)), (0, .ref (kad κ 81)), (1, .int (x1)), (2, .int (x2)), (3, .int (x3)), (4, .int (x4)), (5, .int (x5))] dX1_bestShare_35 (by decide) rfl rfl ?_
      refine r_iload C 39 1 rfl dX1_bestShare_37 rfl ?_
      refine r_iload C 41 0 rfl dX1_bestShare_39 rfl ?_
      refine r_mmax C 44 dX1_bestShare_41 lmX1_91 (Nat.le_of_ble_eq_true rfl) (by decide) rfl ?_
      refine r_istore C 46 [(8, .int (mx (v_3) (v_4))), (7, .int (v_4)), (6, .int (v_3)), (0, .ref (kad κ 81)), (1, .int (x1)), (2, .int (x2)), (3, .int (x3)), (4, .int (x4)), (5, .int (x5))] dX1_bestShare_44 (by decide) rfl rfl ?_
      refine r_iload_n C 47 6 rfl dX1_bestShare_46 rfl ?_
      refine r_iconst C 48 (-1) (by decide) dX1_bestShare_47 rfl ?_
      refine imp_jn (fun (j_8 : Int32 → Int32 → CH → Option (Int32 × CH)) => ∀ (x3_5 : Int32) (x4_6 : Int32) (h_7 : CH), Imp κ 85 [(0, .ref (kad κ 81)), (1, .int (x1)), (2, .int (x2)), (3, .int (x3_5)), (4, .int (x4_6)), (5, .int (x5))] [] h_7 (j_8 x3_5 x4_6 h_7)) ?_ ?_
      · intro x3_5 x4_6 h_7
        refine r_iinc C 88 5 (nI 1) [(5, .int (x5 + (nI 1))), (0, .ref (kad κ 81)), (1, .int (x1)), (2, .int (x2)), (3, .int (x3_5)), (4, .int (x4_6))] dX1_bestShare_85 rfl (by decide) (by decide) rfl rfl ?_
        refine r_goto C 8 dX1_bestShare_88 (by decide) ?_
        exact imp_sub [(0, .ref (kad κ 81)), (1, .int (x1)), (2, .int (x2)), (3, .int (x3_5)), (4, .int (x4_6)), (5, .int (x5 + (nI 1)))] [1, 2, 3, 4, 5, 0] rfl (ih (x3_5) (x4_6) (x5 + (nI 1)) h_7)
      · intro j_8 hj_8
        refine imp_jn (fun (j_9 : Option (Int32 × CH)) =>  Imp κ 58 [(0, .ref (kad κ 81)), (1, .int (x1)), (2, .int (x2)), (3, .int (x3)), (4, .int (x4)), (5, .int (x5)), (6, .int (v_3)), (7, .int (v_4)), (8, .int (mx (v_3) (v_4)))] [] h_2 (j_9)) ?_ ?_
        · refine r_aload_n C 59 0 rfl dX1_bestShare_58 rfl ?_
          refine r_iload_n C 60 1 rfl dX1_bestShare_59 rfl ?_
          refine r_iload C 62 6 rfl dX1_bestShare_60 rfl ?_
          refine r_cViI C 65 [] (ok_f_X1_lets x1 v_3 h_2) dX1_bestShare_62 lvX1_67 kt_81 rfl rfl rfl (by decide) (Nat.le_of_ble_eq_true rfl) rfl rfl (Nat.le_of_ble_eq_true rfl) rfl rfl (fun v_10 h_11 => ?_)
          refine r_if_eq C 68 85 dX1_bestShare_65 (by decide) rfl (fun c_12 => ?_) (fun c_12 => ?_)
          · exact imp_sub [(0, .ref (kad κ 81)), (1, .int (x1)), (2, .int (x2)), (3, .int (x3)), (4, .int (x4)), (5, .int (x5))] [0, 1, 2, 3, 4, 5] rfl (hj_8 (x3) (x4) h_11)
          · refine r_aload_n C 69 0 rfl dX1_bestShare_68 rfl ?_
            refine r_iload_n C 70 2 rfl dX1_bestShare_69 rfl ?_
            refine r_iload C 72 7 rfl dX1_bestShare_70 rfl ?_
            refine r_cViI C 75 [] (ok_f_X1_lets x2 v_4 h_11) dX1_bestShare_72 lvX1_67 kt_81 rfl rfl rfl (by decide) (Nat.le_of_ble_eq_true rfl) rfl rfl (Nat.le_of_ble_eq_true rfl) rfl rfl (fun v_13 h_14 => ?_)
            refine r_if_eq C 78 85 dX1_bestShare_75 (by decide) rfl (fun c_15 => ?_) (fun c_15 => ?_)
            · exact imp_sub [(0, .ref (kad κ 81)), (1, .int (x1)), (2, .int (x2)), (3, .int (x3)), (4, .int (x4)), (5, .int (x5))] [0, 1, 2, 3, 4, 5] rfl (hj_8 (x3) (x4) h_14)
            · refine r_iload C 80 5 rfl dX1_bestShare_78 rfl ?_
              refine r_istore_n C 81 3 [(3, .int (x5)), (0, .ref (kad κ 81)), (1, .int (x1)), (2, .int (x2)), (4, .int (x4)), (5, .int (x5)), (6, .int (v_3)), (7, .int (v_4)), (8, .int (mx (v_3) (v_4)))] dX1_bestShare_80 rfl (by decide) rfl rfl ?_
              refine r_iload C 83 8 rfl dX1_bestShare_81 rfl ?_
              refine r_istore C 85 [(4, .int (mx (v_3) (v_4))), (3, .int (x5)), (0, .ref (kad κ 81)), (1, .int (x1)), (2, .int (x2)), (5, .int (x5)), (6, .int (v_3)), (7, .int (v_4)), (8, .int (mx (v_3) (v_4)))] dX1_bestShare_83 (by decide) rfl rfl ?_
              exact imp_sub [(0, .ref (kad κ 81)), (1, .int (x1)), (2, .int (x2)), (3, .int (x5)), (4, .int (mx (v_3) (v_4))), (5, .int (x5))] [2, 3, 4, 1, 0, 5] rfl (hj_8 (x5) (mx (v_3) (v_4)) h_14)
        · intro j_9 hj_9
          refine r_icmp_eq C 51 58 dX1_bestShare_48 (by decide) rfl (fun c_16 => ?_) (fun c_16 => ?_)
          · exact imp_sub [(0, .ref (kad κ 81)), (1, .int (x1)), (2, .int (x2)), (3, .int (x3)), (4, .int (x4)), (5, .int (x5)), (6, .int (v_3)), (7, .int (v_4)), (8, .int (mx (v_3) (v_4)))] [3, 4, 5, 6, 7, 8, 2, 1, 0] rfl (hj_9)
          · refine r_iload C 53 0 rfl dX1_bestShare_51 rfl ?_
            refine r_iload C 55 7 rfl dX1_bestShare_53 rfl ?_
            refine r_icmp_ge C 58 85 dX1_bestShare_55 (by decide) rfl (fun c_17 => ?_) (fun c_17 => ?_)
            · exact imp_sub [(0, .ref (kad κ 81)), (1, .int (x1)), (2, .int (x2)), (3, .int (x3)), (4, .int (x4)), (5, .int (x5)), (6, .int (v_3)), (7, .int (v_4)), (8, .int (mx (v_3) (v_4)))] [3, 4, 5, 6, 7, 8, 2, 1, 0] rfl (hj_9)
            · exact imp_sub [(0, .ref (kad κ 81)), (1, .int (x1)), (2, .int (x2)), (3, .int (x3)), (4, .int (x4)), (5, .int (x5))] [3, 4, 5, 6, 7, 8] rfl (hj_8 (x3) (x4) h_2)
set_option maxHeartbeats 4000000 in
set_option maxRecDepth 100000 in
theorem imp_f_X1_bestShare {κ : Kx (Int32 × CH)} (C : Cx κ cX1_bestShare RX1 9 5 (40 * 5) []) (x1 : Int32) (x2 : Int32)  (h : CH) (Rr : Rt κ (some .int) (fun (q : Int32 × CH) (_ : Nat → Nat) => some (Value.int q.1)) (fun (q : (Int32 × CH)) => q.2)) : Imp κ 0 [(0, .ref (kad κ 81)), (1, .int (x1)), (2, .int (x2))] [] h (f_X1_bestShare x1 x2 h) := by
  unfold f_X1_bestShare
  refine r_iconst C 1 (-1) (by decide) dX1_bestShare_0 rfl ?_
  refine r_istore_n C 2 3 [(3, .int ((-1))), (0, .ref (kad κ 81)), (1, .int (x1)), (2, .int (x2))] dX1_bestShare_1 rfl (by decide) rfl rfl ?_
  refine r_iconst C 3 (nI 0) (by decide) dX1_bestShare_2 rfl ?_
  refine r_istore C 5 [(4, .int ((nI 0))), (3, .int ((-1))), (0, .ref (kad κ 81)), (1, .int (x1)), (2, .int (x2))] dX1_bestShare_3 (by decide) rfl rfl ?_
  refine r_iconst C 6 (nI 0) (by decide) dX1_bestShare_5 rfl ?_
  refine r_istore C 8 [(5, .int ((nI 0))), (4, .int ((nI 0))), (3, .int ((-1))), (0, .ref (kad κ 81)), (1, .int (x1)), (2, .int (x2))] dX1_bestShare_6 (by decide) rfl rfl ?_
  refine imp_sub [(0, .ref (kad κ 81)), (1, .int (x1)), (2, .int (x2)), (3, .int ((-1))), (4, .int ((nI 0))), (5, .int ((nI 0)))] [3, 4, 5, 2, 1, 0] rfl ?_
  refine imp_f_X1_bestShare_L8 C (x1) (x2) Rr FU ((-1)) ((nI 0)) ((nI 0)) h
set_option maxHeartbeats 4000000 in
theorem ok_f_X1_bestShare (x1 : Int32) (x2 : Int32)  (h : CH) : ∀ q, f_X1_bestShare x1 x2 h = some q → MG yX1_bestShare cX1_bestShare 9 (some .int) [] 5 (fun ad => [.ref (ad 81), .int x1, .int x2]) h ((fun (q : Int32 × CH) (_ : Nat → Nat) => some (Value.int q.1)) q) ((fun (q : (Int32 × CH)) => q.2) q) := mg_of RX1 (by decide) rfl (fun _ => Nat.le_of_ble_eq_true rfl) (fun κ C Rr => imp_f_X1_bestShare C x1 x2 h Rr)
set_option maxHeartbeats 4000000 in
set_option maxRecDepth 100000 in
theorem imp_f_X11_able {κ : Kx (Int32 × CH)} (C : Cx κ cX11_able RX11 5 6 (40 * 6) []) (x1 : Int32) (x2 : Int32) (x3 : Int32) (x4 : Int32)  (h : CH) (Rr : Rt κ (some .int) (fun (q : Int32 × CH) (_ : Nat → Nat) => some (Value.int q.1)) (fun (q : (Int32 × CH)) => q.2)) : Imp κ 0 [(0, .ref (kad κ 0)), (1, .int (x1)), (2, .int (x2)), (3, .int (x3)), (4, .int (x4))] [] h (f_X11_able x1 x2 x3 x4 h) := by
  unfold f_X11_able
  refine r_aload_n C 1 0 rfl dX11_able_0 rfl ?_
  refine r_getR C 4 dX11_able_1 flX11_35 kt_0 rfl rf_0_5 rfl ?_
  refine r_iload_n C 5 1 rfl dX11_able_4 rfl ?_
  refine r_cVpI C 8 [] (ok_f_X9_has_7 x1 h) dX11_able_5 lvX11_160 kt_7 rfl rfl rfl (by decide) (Nat.le_of_ble_eq_true rfl) rfl rfl (Nat.le_of_ble_eq_true rfl) rfl rfl (fun v_1 => ?_)
  refine r_if_eq C 11 36 dX11_able_8 (by decide) rfl (fun c_2 => ?_) (fun c_2 => ?_)
  · refine r_iconst C 37 (-1) (by decide) dX11_able_36 rfl ?_
    exact r_iret C Rr dX11_able_37 (fun _ => rfl) rfl
  · refine r_aload_n C 12 0 rfl dX11_able_11 rfl ?_
    refine r_getR C 15 dX11_able_12 flX11_35 kt_0 rfl rf_0_5 rfl ?_
    refine r_iload_n C 16 2 rfl dX11_able_15 rfl ?_
    refine r_cVpI C 19 [] (ok_f_X9_has_7 x2 h) dX11_able_16 lvX11_160 kt_7 rfl rfl rfl (by decide) (Nat.le_of_ble_eq_true rfl) rfl rfl (Nat.le_of_ble_eq_true rfl) rfl rfl (fun v_3 => ?_)
    refine r_if_eq C 22 36 dX11_able_19 (by decide) rfl (fun c_4 => ?_) (fun c_4 => ?_)
    · refine r_iconst C 37 (-1) (by decide) dX11_able_36 rfl ?_
      exact r_iret C Rr dX11_able_37 (fun _ => rfl) rfl
    · refine r_iload_n C 23 1 rfl dX11_able_22 rfl ?_
      refine r_iload_n C 24 2 rfl dX11_able_23 rfl ?_
      refine r_icmp_ge C 27 36 dX11_able_24 (by decide) rfl (fun c_5 => ?_) (fun c_5 => ?_)
      · refine r_iload_n C 28 3 rfl dX11_able_27 rfl ?_
        refine r_iload C 30 4 rfl dX11_able_28 rfl ?_
        refine r_cSpI C 33 [] (ok_f_X11_isWhen x3 x4 h) dX11_able_30 lsX11_177 rfl (by decide) (Nat.le_of_ble_eq_true rfl) rfl rfl (Nat.le_of_ble_eq_true rfl) rfl rfl (fun v_6 => ?_)
        refine r_if_ne C 36 38 dX11_able_33 (by decide) rfl (fun c_7 => ?_) (fun c_7 => ?_)
        · refine r_iconst C 37 (-1) (by decide) dX11_able_36 rfl ?_
          exact r_iret C Rr dX11_able_37 (fun _ => rfl) rfl
        · refine r_aload_n C 39 0 rfl dX11_able_38 rfl ?_
          refine r_getR C 42 dX11_able_39 flX11_75 kt_0 rfl rf_0_12 rfl ?_
          refine r_iload_n C 43 3 rfl dX11_able_42 rfl ?_
          refine r_iload C 45 4 rfl dX11_able_43 rfl ?_
          refine r_cViV C 48 [] (ok_f_X1_open x3 x4 h) dX11_able_45 lvX11_181 kt_81 rfl rfl rfl (by decide) (Nat.le_of_ble_eq_true rfl) rfl rfl (Nat.le_of_ble_eq_true rfl) rfl rfl (fun _ h_8 => ?_)
          refine r_aload_n C 49 0 rfl dX11_able_48 rfl ?_
          refine r_getR C 52 dX11_able_49 flX11_75 kt_0 rfl rf_0_12 rfl ?_
          refine r_iload_n C 53 1 rfl dX11_able_52 rfl ?_
          refine r_iload_n C 54 2 rfl dX11_able_53 rfl ?_
          refine r_cViI C 57 [] (ok_f_X1_bestShare x1 x2 h_8) dX11_able_54 lvX11_201 kt_81 rfl rfl rfl (by decide) (Nat.le_of_ble_eq_true rfl) rfl rfl (Nat.le_of_ble_eq_true rfl) rfl rfl (fun v_9 h_10 => ?_)
          exact r_iret C Rr dX11_able_57 (fun _ => rfl) rfl
      · refine r_iconst C 37 (-1) (by decide) dX11_able_36 rfl ?_
        exact r_iret C Rr dX11_able_37 (fun _ => rfl) rfl
set_option maxHeartbeats 4000000 in
theorem ok_f_X11_able (x1 : Int32) (x2 : Int32) (x3 : Int32) (x4 : Int32)  (h : CH) : ∀ q, f_X11_able x1 x2 x3 x4 h = some q → MG yX11_able cX11_able 5 (some .int) [] 6 (fun ad => [.ref (ad 0), .int x1, .int x2, .int x3, .int x4]) h ((fun (q : Int32 × CH) (_ : Nat → Nat) => some (Value.int q.1)) q) ((fun (q : (Int32 × CH)) => q.2) q) := mg_of RX11 (by decide) rfl (fun _ => Nat.le_of_ble_eq_true rfl) (fun κ C Rr => imp_f_X11_able C x1 x2 x3 x4 h Rr)
set_option maxHeartbeats 4000000 in
set_option maxRecDepth 100000 in
theorem imp_f_X1_isAble_L2 {κ : Kx (Int32 × CH)} (C : Cx κ cX1_isAble RX1 4 5 (40 * 5) []) (x1 : Int32) (x2 : Int32)    (Rr : Rt κ (some .boolean) (fun (q : Int32 × CH) (_ : Nat → Nat) => some (Value.int q.1)) (fun (q : (Int32 × CH)) => q.2)) : ∀ (n : Nat) (x3 : Int32) (h : CH), Imp κ 2 [(0, .ref (kad κ 81)), (1, .int (x1)), (2, .int (x2)), (3, .int (x3))] [] h (f_X1_isAble_L2 x1 x2 n x3 h) := by
  intro n
  induction n with
  | zero => intros; exact imp_none
  | succ n ih =>
    intro x3 h
    rw [f_X1_isAble_L2]
    refine r_iload_n C 3 3 rfl dX1_isAble_2 rfl ?_
    refine r_bipush C 5 (nI 10) (by decide) dX1_isAble_3 rfl ?_
    refine r_icmp_gt C 8 49 dX1_isAble_5 (by decide) rfl (fun c_1 => ?_) (fun c_1 => ?_)
    · refine r_iconst C 50 (nI 0) (by decide) dX1_isAble_49 rfl ?_
      exact r_zret C Rr (by decide) dX1_isAble_50 (fun _ => rfl) rfl
    · refine r_aload_n C 9 0 rfl dX1_isAble_8 rfl ?_
      refine r_iload_n C 10 1 rfl dX1_isAble_9 rfl ?_
      refine r_iload_n C 11 2 rfl dX1_isAble_10 rfl ?_
      refine r_iload_n C 12 3 rfl dX1_isAble_11 rfl ?_
      refine r_cViV C 15 [] (ok_f_X1_makeMix x1 x2 x3 h) dX1_isAble_12 lvX1_84 kt_81 rfl rfl rfl (by decide) (Nat.le_of_ble_eq_true rfl) rfl rfl (Nat.le_of_ble_eq_true rfl) rfl rfl (fun _ h_2 => ?_)
      refine r_aload_n C 16 0 rfl dX1_isAble_15 rfl ?_
      refine r_iload_n C 17 1 rfl dX1_isAble_16 rfl ?_
      refine r_aload_n C 18 0 rfl dX1_isAble_17 rfl ?_
      refine r_iload_n C 19 1 rfl dX1_isAble_18 rfl ?_
      refine r_cVpI C 22 [.int (x1), .ref (kad κ 81)] (ok_f_X1_apartFromMix x1 h_2) dX1_isAble_19 lvX1_88 kt_81 rfl rfl rfl (by decide) (Nat.le_of_ble_eq_true rfl) rfl rfl (Nat.le_of_ble_eq_true rfl) rfl rfl (fun v_3 => ?_)
      refine r_cViI C 25 [] (ok_f_X1_lets x1 v_3 h_2) dX1_isAble_22 lvX1_67 kt_81 rfl rfl rfl (by decide) (Nat.le_of_ble_eq_true rfl) rfl rfl (Nat.le_of_ble_eq_true rfl) rfl rfl (fun v_4 h_5 => ?_)
      refine imp_jn (fun (j_7 : CH → Option (Int32 × CH)) => ∀ (h_6 : CH), Imp κ 43 [(0, .ref (kad κ 81)), (1, .int (x1)), (2, .int (x2)), (3, .int (x3))] [] h_6 (j_7 h_6)) ?_ ?_
      · intro h_6
        refine r_iinc C 46 3 (nI 1) [(3, .int (x3 + (nI 1))), (0, .ref (kad κ 81)), (1, .int (x1)), (2, .int (x2))] dX1_isAble_43 rfl (by decide) (by decide) rfl rfl ?_
        refine r_goto C 2 dX1_isAble_46 (by decide) ?_
        exact imp_sub [(0, .ref (kad κ 81)), (1, .int (x1)), (2, .int (x2)), (3, .int (x3 + (nI 1)))] [1, 2, 3, 0] rfl (ih (x3 + (nI 1)) h_6)
      · intro j_7 hj_7
        refine r_if_eq C 28 43 dX1_isAble_25 (by decide) rfl (fun c_8 => ?_) (fun c_8 => ?_)
        · exact imp_sub [(0, .ref (kad κ 81)), (1, .int (x1)), (2, .int (x2)), (3, .int (x3))] [0, 1, 2, 3] rfl (hj_7 h_5)
        · refine r_aload_n C 29 0 rfl dX1_isAble_28 rfl ?_
          refine r_iload_n C 30 2 rfl dX1_isAble_29 rfl ?_
          refine r_aload_n C 31 0 rfl dX1_isAble_30 rfl ?_
          refine r_iload_n C 32 2 rfl dX1_isAble_31 rfl ?_
          refine r_cVpI C 35 [.int (x2), .ref (kad κ 81)] (ok_f_X1_apartFromMix x2 h_5) dX1_isAble_32 lvX1_88 kt_81 rfl rfl rfl (by decide) (Nat.le_of_ble_eq_true rfl) rfl rfl (Nat.le_of_ble_eq_true rfl) rfl rfl (fun v_9 => ?_)
          refine r_cViI C 38 [] (ok_f_X1_lets x2 v_9 h_5) dX1_isAble_35 lvX1_67 kt_81 rfl rfl rfl (by decide) (Nat.le_of_ble_eq_true rfl) rfl rfl (Nat.le_of_ble_eq_true rfl) rfl rfl (fun v_10 h_11 => ?_)
          refine r_if_eq C 41 43 dX1_isAble_38 (by decide) rfl (fun c_12 => ?_) (fun c_12 => ?_)
          · exact imp_sub [(0, .ref (kad κ 81)), (1, .int (x1)), (2, .int (x2)), (3, .int (x3))] [0, 1, 2, 3] rfl (hj_7 h_11)
          · refine r_iconst C 42 (nI 1) (by decide) dX1_isAble_41 rfl ?_
            exact r_zret C Rr (by decide) dX1_isAble_42 (fun _ => rfl) rfl
set_option maxHeartbeats 4000000 in
set_option maxRecDepth 100000 in
theorem imp_f_X1_isAble {κ : Kx (Int32 × CH)} (C : Cx κ cX1_isAble RX1 4 5 (40 * 5) []) (x1 : Int32) (x2 : Int32)  (h : CH) (Rr : Rt κ (some .boolean) (fun (q : Int32 × CH) (_ : Nat → Nat) => some (Value.int q.1)) (fun (q : (Int32 × CH)) => q.2)) : Imp κ 0 [(0, .ref (kad κ 81)), (1, .int (x1)), (2, .int (x2))] [] h (f_X1_isAble x1 x2 h) := by
  unfold f_X1_isAble
  refine r_iconst C 1 (nI 0) (by decide) dX1_isAble_0 rfl ?_
  refine r_istore_n C 2 3 [(3, .int ((nI 0))), (0, .ref (kad κ 81)), (1, .int (x1)), (2, .int (x2))] dX1_isAble_1 rfl (by decide) rfl rfl ?_
  refine imp_sub [(0, .ref (kad κ 81)), (1, .int (x1)), (2, .int (x2)), (3, .int ((nI 0)))] [1, 2, 3, 0] rfl ?_
  refine imp_f_X1_isAble_L2 C (x1) (x2) Rr FU ((nI 0)) h
set_option maxHeartbeats 4000000 in
theorem ok_f_X1_isAble (x1 : Int32) (x2 : Int32)  (h : CH) : ∀ q, f_X1_isAble x1 x2 h = some q → MG yX1_isAble cX1_isAble 4 (some .boolean) [] 5 (fun ad => [.ref (ad 81), .int x1, .int x2]) h ((fun (q : Int32 × CH) (_ : Nat → Nat) => some (Value.int q.1)) q) ((fun (q : (Int32 × CH)) => q.2) q) := mg_of RX1 (by decide) rfl (fun _ => Nat.le_of_ble_eq_true rfl) (fun κ C Rr => imp_f_X1_isAble C x1 x2 h Rr)
set_option maxHeartbeats 4000000 in
set_option maxRecDepth 100000 in
theorem imp_f_X1_countAble_L19 {κ : Kx (Int32 × CH)} (C : Cx κ cX1_countAble RX1 4 6 (40 * 6) []) (x2 : Int32)  (k48 : Int32 → CH → Option (Int32 × CH)) (hk48 : ∀ (x1_2 : Int32) (h_3 : CH), Imp κ 48 [(0, .ref (kad κ 81)), (1, .int (x1_2)), (2, .int (x2))] [] h_3 (k48 x1_2 h_3)) (Rr : Rt κ (some .int) (fun (q : Int32 × CH) (_ : Nat → Nat) => some (Value.int q.1)) (fun (q : (Int32 × CH)) => q.2)) : ∀ (n : Nat) (x1 : Int32) (x3 : Int32) (h : CH), Imp κ 19 [(0, .ref (kad κ 81)), (1, .int (x1)), (2, .int (x2)), (3, .int (x3))] [] h (f_X1_countAble_L19 x2 k48 n x1 x3 h) := by
  intro n
  induction n with
  | zero => intros; exact imp_none
  | succ n ih =>
    intro x1 x3 h
    rw [f_X1_countAble_L19]
    refine r_iload_n C 20 3 rfl dX1_countAble_19 rfl ?_
    refine r_aload_n C 21 0 rfl dX1_countAble_20 rfl ?_
    refine r_getR C 24 dX1_countAble_21 flX1_30 kt_81 rfl rf_81_0 rfl ?_
    refine r_getI C 27 dX1_countAble_24 flX1_38 kt_7 rfl rfl ?_
    refine r_icmp_ge C 30 48 dX1_countAble_27 (by decide) rfl (fun c_4 => ?_) (fun c_4 => ?_)
    · refine r_aload_n C 31 0 rfl dX1_countAble_30 rfl ?_
      refine r_iload_n C 32 2 rfl dX1_countAble_31 rfl ?_
      refine r_iload_n C 33 3 rfl dX1_countAble_32 rfl ?_
      refine r_cViI C 36 [] (ok_f_X1_isAble x2 x3 h) dX1_countAble_33 lvX1_94 kt_81 rfl rfl rfl (by decide) (Nat.le_of_ble_eq_true rfl) rfl rfl (Nat.le_of_ble_eq_true rfl) rfl rfl (fun v_5 h_6 => ?_)
      refine imp_jn (fun (j_8 : Int32 → Option (Int32 × CH)) => ∀ (x1_7 : Int32), Imp κ 42 [(0, .ref (kad κ 81)), (1, .int (x1_7)), (2, .int (x2)), (3, .int (x3))] [] h_6 (j_8 x1_7)) ?_ ?_
      · intro x1_7
        refine r_iinc C 45 3 (nI 1) [(3, .int (x3 + (nI 1))), (0, .ref (kad κ 81)), (1, .int (x1_7)), (2, .int (x2))] dX1_countAble_42 rfl (by decide) (by decide) rfl rfl ?_
        refine r_goto C 19 dX1_countAble_45 (by decide) ?_
        exact imp_sub [(0, .ref (kad κ 81)), (1, .int (x1_7)), (2, .int (x2)), (3, .int (x3 + (nI 1)))] [1, 2, 3, 0] rfl (ih (x1_7) (x3 + (nI 1)) h_6)
      · intro j_8 hj_8
        refine r_if_eq C 39 42 dX1_countAble_36 (by decide) rfl (fun c_9 => ?_) (fun c_9 => ?_)
        · exact imp_sub [(0, .ref (kad κ 81)), (1, .int (x1)), (2, .int (x2)), (3, .int (x3))] [0, 1, 2, 3] rfl (hj_8 (x1))
        · refine r_iinc C 42 1 (nI 1) [(1, .int (x1 + (nI 1))), (0, .ref (kad κ 81)), (2, .int (x2)), (3, .int (x3))] dX1_countAble_39 rfl (by decide) (by decide) rfl rfl ?_
          exact imp_sub [(0, .ref (kad κ 81)), (1, .int (x1 + (nI 1))), (2, .int (x2)), (3, .int (x3))] [1, 0, 2, 3] rfl (hj_8 (x1 + (nI 1)))
    · exact imp_sub [(0, .ref (kad κ 81)), (1, .int (x1)), (2, .int (x2))] [0, 1, 2] rfl (hk48 (x1) h)
set_option maxHeartbeats 4000000 in
set_option maxRecDepth 100000 in
theorem imp_f_X1_countAble_L4 {κ : Kx (Int32 × CH)} (C : Cx κ cX1_countAble RX1 4 6 (40 * 6) [])     (Rr : Rt κ (some .int) (fun (q : Int32 × CH) (_ : Nat → Nat) => some (Value.int q.1)) (fun (q : (Int32 × CH)) => q.2)) : ∀ (n : Nat) (x1 : Int32) (x2 : Int32) (h : CH), Imp κ 4 [(0, .ref (kad κ 81)), (1, .int (x1)), (2, .int (x2))] [] h (f_X1_countAble_L4 n x1 x2 h) := by
  intro n
  induction n with
  | zero => intros; exact imp_none
  | succ n ih =>
    intro x1 x2 h
    rw [f_X1_countAble_L4]
    refine r_iload_n C 5 2 rfl dX1_countAble_4 rfl ?_
    refine r_aload_n C 6 0 rfl dX1_countAble_5 rfl ?_
    refine r_getR C 9 dX1_countAble_6 flX1_30 kt_81 rfl rf_81_0 rfl ?_
    refine r_getI C 12 dX1_countAble_9 flX1_38 kt_7 rfl rfl ?_
    refine r_icmp_ge C 15 54 dX1_countAble_12 (by decide) rfl (fun c_1 => ?_) (fun c_1 => ?_)
    · refine r_iload_n C 16 2 rfl dX1_countAble_15 rfl ?_
      refine r_iconst C 17 (nI 1) (by decide) dX1_countAble_16 rfl ?_
      refine r_iadd C 18 dX1_countAble_17 rfl ?_
      refine r_istore_n C 19 3 [(3, .int ((x2) + ((nI 1)))), (0, .ref (kad κ 81)), (1, .int (x1)), (2, .int (x2))] dX1_countAble_18 rfl (by decide) rfl rfl ?_
      refine imp_sub [(0, .ref (kad κ 81)), (1, .int (x1)), (2, .int (x2)), (3, .int ((x2) + ((nI 1))))] [1, 2, 3, 0] rfl ?_
      refine imp_f_X1_countAble_L19 C (x2) _ ?_ Rr FU (x1) ((x2) + ((nI 1))) h
      · intro x1_2 h_3
        refine r_iinc C 51 2 (nI 1) [(2, .int (x2 + (nI 1))), (0, .ref (kad κ 81)), (1, .int (x1_2))] dX1_countAble_48 rfl (by decide) (by decide) rfl rfl ?_
        refine r_goto C 4 dX1_countAble_51 (by decide) ?_
        exact imp_sub [(0, .ref (kad κ 81)), (1, .int (x1_2)), (2, .int (x2 + (nI 1)))] [1, 2, 0] rfl (ih (x1_2) (x2 + (nI 1)) h_3)
    · refine r_iload_n C 55 1 rfl dX1_countAble_54 rfl ?_
      exact r_iret C Rr dX1_countAble_55 (fun _ => rfl) rfl
set_option maxHeartbeats 4000000 in
set_option maxRecDepth 100000 in
theorem imp_f_X1_countAble {κ : Kx (Int32 × CH)} (C : Cx κ cX1_countAble RX1 4 6 (40 * 6) [])   (h : CH) (Rr : Rt κ (some .int) (fun (q : Int32 × CH) (_ : Nat → Nat) => some (Value.int q.1)) (fun (q : (Int32 × CH)) => q.2)) : Imp κ 0 [(0, .ref (kad κ 81))] [] h (f_X1_countAble h) := by
  unfold f_X1_countAble
  refine r_iconst C 1 (nI 0) (by decide) dX1_countAble_0 rfl ?_
  refine r_istore_n C 2 1 [(1, .int ((nI 0))), (0, .ref (kad κ 81))] dX1_countAble_1 rfl (by decide) rfl rfl ?_
  refine r_iconst C 3 (nI 0) (by decide) dX1_countAble_2 rfl ?_
  refine r_istore_n C 4 2 [(2, .int ((nI 0))), (1, .int ((nI 0))), (0, .ref (kad κ 81))] dX1_countAble_3 rfl (by decide) rfl rfl ?_
  refine imp_sub [(0, .ref (kad κ 81)), (1, .int ((nI 0))), (2, .int ((nI 0)))] [2, 1, 0] rfl ?_
  refine imp_f_X1_countAble_L4 C Rr FU ((nI 0)) ((nI 0)) h
set_option maxHeartbeats 4000000 in
theorem ok_f_X1_countAble   (h : CH) : ∀ q, f_X1_countAble h = some q → MG yX1_countAble cX1_countAble 4 (some .int) [] 6 (fun ad => [.ref (ad 81)]) h ((fun (q : Int32 × CH) (_ : Nat → Nat) => some (Value.int q.1)) q) ((fun (q : (Int32 × CH)) => q.2) q) := mg_of RX1 (by decide) rfl (fun _ => Nat.le_of_ble_eq_true rfl) (fun κ C Rr => imp_f_X1_countAble C  h Rr)
set_option maxHeartbeats 4000000 in
set_option maxRecDepth 100000 in
theorem imp_f_X11_pairs {κ : Kx (Int32 × CH)} (C : Cx κ cX11_pairs RX11 3 7 (40 * 7) []) (x1 : Int32) (x2 : Int32)  (h : CH) (Rr : Rt κ (some .int) (fun (q : Int32 × CH) (_ : Nat → Nat) => some (Value.int q.1)) (fun (q : (Int32 × CH)) => q.2)) : Imp κ 0 [(0, .ref (kad κ 0)), (1, .int (x1)), (2, .int (x2))] [] h (f_X11_pairs x1 x2 h) := by
  unfold f_X11_pairs
  refine r_iload_n C 1 1 rfl dX11_pairs_0 rfl ?_
  refine r_iload_n C 2 2 rfl dX11_pairs_1 rfl ?_
  refine r_cSpI C 5 [] (ok_f_X11_isWhen x1 x2 h) dX11_pairs_2 lsX11_177 rfl (by decide) (Nat.le_of_ble_eq_true rfl) rfl rfl (Nat.le_of_ble_eq_true rfl) rfl rfl (fun v_1 => ?_)
  refine r_if_ne C 8 10 dX11_pairs_5 (by decide) rfl (fun c_2 => ?_) (fun c_2 => ?_)
  · refine r_iconst C 9 (-1) (by decide) dX11_pairs_8 rfl ?_
    exact r_iret C Rr dX11_pairs_9 (fun _ => rfl) rfl
  · refine r_aload_n C 11 0 rfl dX11_pairs_10 rfl ?_
    refine r_getR C 14 dX11_pairs_11 flX11_75 kt_0 rfl rf_0_12 rfl ?_
    refine r_iload_n C 15 1 rfl dX11_pairs_14 rfl ?_
    refine r_iload_n C 16 2 rfl dX11_pairs_15 rfl ?_
    refine r_cViV C 19 [] (ok_f_X1_open x1 x2 h) dX11_pairs_16 lvX11_181 kt_81 rfl rfl rfl (by decide) (Nat.le_of_ble_eq_true rfl) rfl rfl (Nat.le_of_ble_eq_true rfl) rfl rfl (fun _ h_3 => ?_)
    refine r_aload_n C 20 0 rfl dX11_pairs_19 rfl ?_
    refine r_getR C 23 dX11_pairs_20 flX11_75 kt_0 rfl rf_0_12 rfl ?_
    refine r_cViI C 26 [] (ok_f_X1_countAble h_3) dX11_pairs_23 lvX11_205 kt_81 rfl rfl rfl (by decide) (Nat.le_of_ble_eq_true rfl) rfl rfl (Nat.le_of_ble_eq_true rfl) rfl rfl (fun v_4 h_5 => ?_)
    exact r_iret C Rr dX11_pairs_26 (fun _ => rfl) rfl
set_option maxHeartbeats 4000000 in
theorem ok_f_X11_pairs (x1 : Int32) (x2 : Int32)  (h : CH) : ∀ q, f_X11_pairs x1 x2 h = some q → MG yX11_pairs cX11_pairs 3 (some .int) [] 7 (fun ad => [.ref (ad 0), .int x1, .int x2]) h ((fun (q : Int32 × CH) (_ : Nat → Nat) => some (Value.int q.1)) q) ((fun (q : (Int32 × CH)) => q.2) q) := mg_of RX11 (by decide) rfl (fun _ => Nat.le_of_ble_eq_true rfl) (fun κ C Rr => imp_f_X11_pairs C x1 x2 h Rr)
set_option maxHeartbeats 4000000 in
set_option maxRecDepth 100000 in
theorem imp_f_X1_ableAt_L20 {κ : Kx (Int32 × CH)} (C : Cx κ cX1_ableAt RX1 5 6 (40 * 6) []) (x3 : Int32)  (k46 : Int32 → CH → Option (Int32 × CH)) (k63 : Int32 → CH → Option (Int32 × CH)) (hk46 : ∀ (x4_2 : Int32) (h_3 : CH), Imp κ 46 [(3, .int (x3)), (4, .int (x4_2))] [] h_3 (k46 x4_2 h_3)) (hk63 : ∀ (x2_4 : Int32) (h_5 : CH), Imp κ 63 [(0, .ref (kad κ 81)), (2, .int (x2_4)), (3, .int (x3))] [] h_5 (k63 x2_4 h_5)) (Rr : Rt κ (some .int) (fun (q : Int32 × CH) (_ : Nat → Nat) => some (Value.int q.1)) (fun (q : (Int32 × CH)) => q.2)) : ∀ (n : Nat) (x2 : Int32) (x4 : Int32) (h : CH), Imp κ 20 [(0, .ref (kad κ 81)), (2, .int (x2)), (3, .int (x3)), (4, .int (x4))] [] h (f_X1_ableAt_L20 x3 k46 k63 n x2 x4 h) := by
  intro n
  induction n with
  | zero => intros; exact imp_none
  | succ n ih =>
    intro x2 x4 h
    rw [f_X1_ableAt_L20]
    refine r_iload C 22 3 rfl dX1_ableAt_20 rfl ?_
    refine r_aload_n C 23 0 rfl dX1_ableAt_22 rfl ?_
    refine r_getR C 26 dX1_ableAt_23 flX1_30 kt_81 rfl rf_81_0 rfl ?_
    refine r_getI C 29 dX1_ableAt_26 flX1_38 kt_7 rfl rfl ?_
    refine r_icmp_ge C 32 63 dX1_ableAt_29 (by decide) rfl (fun c_6 => ?_) (fun c_6 => ?_)
    · refine r_aload_n C 33 0 rfl dX1_ableAt_32 rfl ?_
      refine r_iload_n C 34 2 rfl dX1_ableAt_33 rfl ?_
      refine r_iload C 36 3 rfl dX1_ableAt_34 rfl ?_
      refine r_cViI C 39 [] (ok_f_X1_isAble x3 x4 h) dX1_ableAt_36 lvX1_94 kt_81 rfl rfl rfl (by decide) (Nat.le_of_ble_eq_true rfl) rfl rfl (Nat.le_of_ble_eq_true rfl) rfl rfl (fun v_7 h_8 => ?_)
      refine imp_jn (fun (j_10 : Int32 → Option (Int32 × CH)) => ∀ (x2_9 : Int32), Imp κ 57 [(0, .ref (kad κ 81)), (2, .int (x2_9)), (3, .int (x3)), (4, .int (x4))] [] h_8 (j_10 x2_9)) ?_ ?_
      · intro x2_9
        refine r_iinc C 60 3 (nI 1) [(4, .int (x4 + (nI 1))), (0, .ref (kad κ 81)), (2, .int (x2_9)), (3, .int (x3))] dX1_ableAt_57 rfl (by decide) (by decide) rfl rfl ?_
        refine r_goto C 20 dX1_ableAt_60 (by decide) ?_
        exact imp_sub [(0, .ref (kad κ 81)), (2, .int (x2_9)), (3, .int (x3)), (4, .int (x4 + (nI 1)))] [1, 2, 3, 0] rfl (ih (x2_9) (x4 + (nI 1)) h_8)
      · intro j_10 hj_10
        refine r_if_eq C 42 57 dX1_ableAt_39 (by decide) rfl (fun c_11 => ?_) (fun c_11 => ?_)
        · exact imp_sub [(0, .ref (kad κ 81)), (2, .int (x2)), (3, .int (x3)), (4, .int (x4))] [0, 1, 2, 3] rfl (hj_10 (x2))
        · refine r_iload_n C 43 1 rfl dX1_ableAt_42 rfl ?_
          refine r_if_ne C 46 54 dX1_ableAt_43 (by decide) rfl (fun c_12 => ?_) (fun c_12 => ?_)
          · exact imp_sub [(3, .int (x3)), (4, .int (x4))] [2, 3] rfl (hk46 (x4) h_8)
          · refine r_iinc C 57 1 (-1) [(2, .int (x2 + (-1))), (0, .ref (kad κ 81)), (3, .int (x3)), (4, .int (x4))] dX1_ableAt_54 rfl (by decide) (by decide) rfl rfl ?_
            exact imp_sub [(0, .ref (kad κ 81)), (2, .int (x2 + (-1))), (3, .int (x3)), (4, .int (x4))] [1, 0, 2, 3] rfl (hj_10 (x2 + (-1)))
    · exact imp_sub [(0, .ref (kad κ 81)), (2, .int (x2)), (3, .int (x3))] [0, 1, 2] rfl (hk63 (x2) h)
set_option maxHeartbeats 4000000 in
set_option maxRecDepth 100000 in
theorem imp_f_X1_ableAt_L4 {κ : Kx (Int32 × CH)} (C : Cx κ cX1_ableAt RX1 5 6 (40 * 6) [])     (Rr : Rt κ (some .int) (fun (q : Int32 × CH) (_ : Nat → Nat) => some (Value.int q.1)) (fun (q : (Int32 × CH)) => q.2)) : ∀ (n : Nat) (x2 : Int32) (x3 : Int32) (h : CH), Imp κ 4 [(0, .ref (kad κ 81)), (2, .int (x2)), (3, .int (x3))] [] h (f_X1_ableAt_L4 n x2 x3 h) := by
  intro n
  induction n with
  | zero => intros; exact imp_none
  | succ n ih =>
    intro x2 x3 h
    rw [f_X1_ableAt_L4]
    refine r_iload_n C 5 2 rfl dX1_ableAt_4 rfl ?_
    refine r_aload_n C 6 0 rfl dX1_ableAt_5 rfl ?_
    refine r_getR C 9 dX1_ableAt_6 flX1_30 kt_81 rfl rf_81_0 rfl ?_
    refine r_getI C 12 dX1_ableAt_9 flX1_38 kt_7 rfl rfl ?_
    refine r_icmp_ge C 15 69 dX1_ableAt_12 (by decide) rfl (fun c_1 => ?_) (fun c_1 => ?_)
    · refine r_iload_n C 16 2 rfl dX1_ableAt_15 rfl ?_
      refine r_iconst C 17 (nI 1) (by decide) dX1_ableAt_16 rfl ?_
      refine r_iadd C 18 dX1_ableAt_17 rfl ?_
      refine r_istore C 20 [(4, .int ((x3) + ((nI 1)))), (0, .ref (kad κ 81)), (2, .int (x2)), (3, .int (x3))] dX1_ableAt_18 (by decide) rfl rfl ?_
      refine imp_sub [(0, .ref (kad κ 81)), (2, .int (x2)), (3, .int (x3)), (4, .int ((x3) + ((nI 1))))] [1, 2, 3, 0] rfl ?_
      refine imp_f_X1_ableAt_L20 C (x3) _ _ ?_ ?_ Rr FU (x2) ((x3) + ((nI 1))) h
      · intro x4_2 h_3
        refine r_bipush C 48 (nI 100) (by decide) dX1_ableAt_46 rfl ?_
        refine r_iload_n C 49 0 rfl dX1_ableAt_48 rfl ?_
        refine r_imul C 50 dX1_ableAt_49 rfl ?_
        refine r_iload C 52 1 rfl dX1_ableAt_50 rfl ?_
        refine r_iadd C 53 dX1_ableAt_52 rfl ?_
        exact r_iret C Rr dX1_ableAt_53 (fun _ => rfl) rfl
      · intro x2_4 h_5
        refine r_iinc C 66 2 (nI 1) [(3, .int (x3 + (nI 1))), (0, .ref (kad κ 81)), (2, .int (x2_4))] dX1_ableAt_63 rfl (by decide) (by decide) rfl rfl ?_
        refine r_goto C 4 dX1_ableAt_66 (by decide) ?_
        exact imp_sub [(0, .ref (kad κ 81)), (2, .int (x2_4)), (3, .int (x3 + (nI 1)))] [1, 2, 0] rfl (ih (x2_4) (x3 + (nI 1)) h_5)
    · refine r_iconst C 70 (-1) (by decide) dX1_ableAt_69 rfl ?_
      exact r_iret C Rr dX1_ableAt_70 (fun _ => rfl) rfl
set_option maxHeartbeats 4000000 in
set_option maxRecDepth 100000 in
theorem imp_f_X1_ableAt {κ : Kx (Int32 × CH)} (C : Cx κ cX1_ableAt RX1 5 6 (40 * 6) []) (x1 : Int32)  (h : CH) (Rr : Rt κ (some .int) (fun (q : Int32 × CH) (_ : Nat → Nat) => some (Value.int q.1)) (fun (q : (Int32 × CH)) => q.2)) : Imp κ 0 [(0, .ref (kad κ 81)), (1, .int (x1))] [] h (f_X1_ableAt x1 h) := by
  unfold f_X1_ableAt
  refine r_iload_n C 1 1 rfl dX1_ableAt_0 rfl ?_
  refine r_istore_n C 2 2 [(2, .int (x1)), (0, .ref (kad κ 81)), (1, .int (x1))] dX1_ableAt_1 rfl (by decide) rfl rfl ?_
  refine r_iconst C 3 (nI 0) (by decide) dX1_ableAt_2 rfl ?_
  refine r_istore_n C 4 3 [(3, .int ((nI 0))), (2, .int (x1)), (0, .ref (kad κ 81)), (1, .int (x1))] dX1_ableAt_3 rfl (by decide) rfl rfl ?_
  refine imp_sub [(0, .ref (kad κ 81)), (2, .int (x1)), (3, .int ((nI 0)))] [2, 1, 0] rfl ?_
  refine imp_f_X1_ableAt_L4 C Rr FU (x1) ((nI 0)) h
set_option maxHeartbeats 4000000 in
theorem ok_f_X1_ableAt (x1 : Int32)  (h : CH) : ∀ q, f_X1_ableAt x1 h = some q → MG yX1_ableAt cX1_ableAt 5 (some .int) [] 6 (fun ad => [.ref (ad 81), .int x1]) h ((fun (q : Int32 × CH) (_ : Nat → Nat) => some (Value.int q.1)) q) ((fun (q : (Int32 × CH)) => q.2) q) := mg_of RX1 (by decide) rfl (fun _ => Nat.le_of_ble_eq_true rfl) (fun κ C Rr => imp_f_X1_ableAt C x1 h Rr)
set_option maxHeartbeats 4000000 in
set_option maxRecDepth 100000 in
theorem imp_f_X11_pair {κ : Kx (Int32 × CH)} (C : Cx κ cX11_pair RX11 4 7 (40 * 7) []) (x1 : Int32) (x2 : Int32) (x3 : Int32)  (h : CH) (Rr : Rt κ (some .int) (fun (q : Int32 × CH) (_ : Nat → Nat) => some (Value.int q.1)) (fun (q : (Int32 × CH)) => q.2)) : Imp κ 0 [(0, .ref (kad κ 0)), (1, .int (x1)), (2, .int (x2)), (3, .int (x3))] [] h (f_X11_pair x1 x2 x3 h) := by
  unfold f_X11_pair
  refine r_iload_n C 1 1 rfl dX11_pair_0 rfl ?_
  refine r_if_lt C 4 12 dX11_pair_1 (by decide) rfl (fun c_1 => ?_) (fun c_1 => ?_)
  · refine r_iconst C 13 (-1) (by decide) dX11_pair_12 rfl ?_
    exact r_iret C Rr dX11_pair_13 (fun _ => rfl) rfl
  · refine r_iload_n C 5 2 rfl dX11_pair_4 rfl ?_
    refine r_iload_n C 6 3 rfl dX11_pair_5 rfl ?_
    refine r_cSpI C 9 [] (ok_f_X11_isWhen x2 x3 h) dX11_pair_6 lsX11_177 rfl (by decide) (Nat.le_of_ble_eq_true rfl) rfl rfl (Nat.le_of_ble_eq_true rfl) rfl rfl (fun v_2 => ?_)
    refine r_if_ne C 12 14 dX11_pair_9 (by decide) rfl (fun c_3 => ?_) (fun c_3 => ?_)
    · refine r_iconst C 13 (-1) (by decide) dX11_pair_12 rfl ?_
      exact r_iret C Rr dX11_pair_13 (fun _ => rfl) rfl
    · refine r_aload_n C 15 0 rfl dX11_pair_14 rfl ?_
      refine r_getR C 18 dX11_pair_15 flX11_75 kt_0 rfl rf_0_12 rfl ?_
      refine r_iload_n C 19 2 rfl dX11_pair_18 rfl ?_
      refine r_iload_n C 20 3 rfl dX11_pair_19 rfl ?_
      refine r_cViV C 23 [] (ok_f_X1_open x2 x3 h) dX11_pair_20 lvX11_181 kt_81 rfl rfl rfl (by decide) (Nat.le_of_ble_eq_true rfl) rfl rfl (Nat.le_of_ble_eq_true rfl) rfl rfl (fun _ h_4 => ?_)
      refine r_aload_n C 24 0 rfl dX11_pair_23 rfl ?_
      refine r_getR C 27 dX11_pair_24 flX11_75 kt_0 rfl rf_0_12 rfl ?_
      refine r_iload_n C 28 1 rfl dX11_pair_27 rfl ?_
      refine r_cViI C 31 [] (ok_f_X1_ableAt x1 h_4) dX11_pair_28 lvX11_208 kt_81 rfl rfl rfl (by decide) (Nat.le_of_ble_eq_true rfl) rfl rfl (Nat.le_of_ble_eq_true rfl) rfl rfl (fun v_5 h_6 => ?_)
      exact r_iret C Rr dX11_pair_31 (fun _ => rfl) rfl
set_option maxHeartbeats 4000000 in
theorem ok_f_X11_pair (x1 : Int32) (x2 : Int32) (x3 : Int32)  (h : CH) : ∀ q, f_X11_pair x1 x2 x3 h = some q → MG yX11_pair cX11_pair 4 (some .int) [] 7 (fun ad => [.ref (ad 0), .int x1, .int x2, .int x3]) h ((fun (q : Int32 × CH) (_ : Nat → Nat) => some (Value.int q.1)) q) ((fun (q : (Int32 × CH)) => q.2) q) := mg_of RX11 (by decide) rfl (fun _ => Nat.le_of_ble_eq_true rfl) (fun κ C Rr => imp_f_X11_pair C x1 x2 x3 h Rr)
set_option maxHeartbeats 4000000 in
set_option maxRecDepth 100000 in
theorem imp_f_X1_isOf {κ : Kx Int32} (C : Cx κ cX1_isOf RX1 3 3 (40 * 3) []) (x1 : Int32) (x2 : Int32)  (h : CH) (Rr : Rt κ (some .boolean) (fun (x : Int32) (_ : Nat → Nat) => some (Value.int x)) (fun (_ : Int32) => h)) : Imp κ 0 [(0, .ref (kad κ 81)), (1, .int (x1)), (2, .int (x2))] [] h (f_X1_isOf x1 x2 h) := by
  unfold f_X1_isOf
  refine r_iload_n C 1 2 rfl dX1_isOf_0 rfl ?_
  refine r_iconst C 2 (-1) (by decide) dX1_isOf_1 rfl ?_
  refine imp_jn (fun (j_1 : Option Int32) =>  Imp κ 17 [] [] h (j_1)) ?_ ?_
  · refine r_iconst C 18 (nI 1) (by decide) dX1_isOf_17 rfl ?_
    refine r_goto C 22 dX1_isOf_18 (by decide) ?_
    exact r_zret C Rr (by decide) dX1_isOf_22 (fun _ => rfl) rfl
  · intro j_1 hj_1
    refine r_icmp_eq C 5 17 dX1_isOf_2 (by decide) rfl (fun c_2 => ?_) (fun c_2 => ?_)
    · exact imp_sub [] [] rfl (hj_1)
    · refine r_aload_n C 6 0 rfl dX1_isOf_5 rfl ?_
      refine r_getR C 9 dX1_isOf_6 flX1_30 kt_81 rfl rf_81_0 rfl ?_
      refine r_iload_n C 10 1 rfl dX1_isOf_9 rfl ?_
      refine r_cVpI C 13 [] (ok_f_X9_kindOf_7 x1 h) dX1_isOf_10 lvX1_71 kt_7 rfl rfl rfl (by decide) (Nat.le_of_ble_eq_true rfl) rfl rfl (Nat.le_of_ble_eq_true rfl) rfl rfl (fun v_3 => ?_)
      refine r_iload_n C 14 2 rfl dX1_isOf_13 rfl ?_
      refine r_icmp_ne C 17 21 dX1_isOf_14 (by decide) rfl (fun c_4 => ?_) (fun c_4 => ?_)
      · exact imp_sub [] [] rfl (hj_1)
      · refine r_iconst C 22 (nI 0) (by decide) dX1_isOf_21 rfl ?_
        exact r_zret C Rr (by decide) dX1_isOf_22 (fun _ => rfl) rfl
set_option maxHeartbeats 4000000 in
theorem ok_f_X1_isOf (x1 : Int32) (x2 : Int32)  (h : CH) : ∀ q, f_X1_isOf x1 x2 h = some q → MG yX1_isOf cX1_isOf 3 (some .boolean) [] 3 (fun ad => [.ref (ad 81), .int x1, .int x2]) h ((fun (x : Int32) (_ : Nat → Nat) => some (Value.int x)) q) ((fun (_ : Int32) => h) q) := mg_of RX1 (by decide) rfl (fun _ => Nat.le_of_ble_eq_true rfl) (fun κ C Rr => imp_f_X1_isOf C x1 x2 h Rr)
set_option maxHeartbeats 4000000 in
set_option maxRecDepth 100000 in
theorem imp_f_X1_countFalse_L18 {κ : Kx (Int32 × CH)} (C : Cx κ cX1_countFalse RX1 5 6 (40 * 6) []) (x1 : Int32) (x3 : Int32)  (k64 : Int32 → CH → Option (Int32 × CH)) (hk64 : ∀ (x2_2 : Int32) (h_3 : CH), Imp κ 64 [(0, .ref (kad κ 81)), (1, .int (x1)), (2, .int (x2_2)), (3, .int (x3))] [] h_3 (k64 x2_2 h_3)) (Rr : Rt κ (some .int) (fun (q : Int32 × CH) (_ : Nat → Nat) => some (Value.int q.1)) (fun (q : (Int32 × CH)) => q.2)) : ∀ (n : Nat) (x2 : Int32) (x4 : Int32) (h : CH), Imp κ 18 [(0, .ref (kad κ 81)), (1, .int (x1)), (2, .int (x2)), (3, .int (x3)), (4, .int (x4))] [] h (f_X1_countFalse_L18 x1 x3 k64 n x2 x4 h) := by
  intro n
  induction n with
  | zero => intros; exact imp_none
  | succ n ih =>
    intro x2 x4 h
    rw [f_X1_countFalse_L18]
    refine r_iload C 20 4 rfl dX1_countFalse_18 rfl ?_
    refine r_aload_n C 21 0 rfl dX1_countFalse_20 rfl ?_
    refine r_getR C 24 dX1_countFalse_21 flX1_30 kt_81 rfl rf_81_0 rfl ?_
    refine r_getI C 27 dX1_countFalse_24 flX1_38 kt_7 rfl rfl ?_
    refine r_icmp_ge C 30 64 dX1_countFalse_27 (by decide) rfl (fun c_4 => ?_) (fun c_4 => ?_)
    · refine r_iload_n C 31 3 rfl dX1_countFalse_30 rfl ?_
      refine r_iload C 33 4 rfl dX1_countFalse_31 rfl ?_
      refine imp_jn (fun (j_7 : Int32 → CH → Option (Int32 × CH)) => ∀ (x2_5 : Int32) (h_6 : CH), Imp κ 58 [(0, .ref (kad κ 81)), (1, .int (x1)), (2, .int (x2_5)), (3, .int (x3)), (4, .int (x4))] [] h_6 (j_7 x2_5 h_6)) ?_ ?_
      · intro x2_5 h_6
        refine r_iinc C 61 4 (nI 1) [(4, .int (x4 + (nI 1))), (0, .ref (kad κ 81)), (1, .int (x1)), (2, .int (x2_5)), (3, .int (x3))] dX1_countFalse_58 rfl (by decide) (by decide) rfl rfl ?_
        refine r_goto C 18 dX1_countFalse_61 (by decide) ?_
        exact imp_sub [(0, .ref (kad κ 81)), (1, .int (x1)), (2, .int (x2_5)), (3, .int (x3)), (4, .int (x4 + (nI 1)))] [1, 2, 3, 4, 0] rfl (ih (x2_5) (x4 + (nI 1)) h_6)
      · intro j_7 hj_7
        refine r_icmp_eq C 36 58 dX1_countFalse_33 (by decide) rfl (fun c_8 => ?_) (fun c_8 => ?_)
        · exact imp_sub [(0, .ref (kad κ 81)), (1, .int (x1)), (2, .int (x2)), (3, .int (x3)), (4, .int (x4))] [0, 1, 2, 3, 4] rfl (hj_7 (x2) h)
        · refine r_aload_n C 37 0 rfl dX1_countFalse_36 rfl ?_
          refine r_iload_n C 38 3 rfl dX1_countFalse_37 rfl ?_
          refine r_iload_n C 39 1 rfl dX1_countFalse_38 rfl ?_
          refine r_cVpI C 42 [] (ok_f_X1_isOf x3 x1 h) dX1_countFalse_39 lvX1_97 kt_81 rfl rfl rfl (by decide) (Nat.le_of_ble_eq_true rfl) rfl rfl (Nat.le_of_ble_eq_true rfl) rfl rfl (fun v_9 => ?_)
          refine r_if_eq C 45 58 dX1_countFalse_42 (by decide) rfl (fun c_10 => ?_) (fun c_10 => ?_)
          · exact imp_sub [(0, .ref (kad κ 81)), (1, .int (x1)), (2, .int (x2)), (3, .int (x3)), (4, .int (x4))] [0, 1, 2, 3, 4] rfl (hj_7 (x2) h)
          · refine r_aload_n C 46 0 rfl dX1_countFalse_45 rfl ?_
            refine r_iload_n C 47 3 rfl dX1_countFalse_46 rfl ?_
            refine r_iload C 49 4 rfl dX1_countFalse_47 rfl ?_
            refine r_cViI C 52 [] (ok_f_X1_letsInWith x3 x4 h) dX1_countFalse_49 lvX1_100 kt_81 rfl rfl rfl (by decide) (Nat.le_of_ble_eq_true rfl) rfl rfl (Nat.le_of_ble_eq_true rfl) rfl rfl (fun v_11 h_12 => ?_)
            refine r_if_eq C 55 58 dX1_countFalse_52 (by decide) rfl (fun c_13 => ?_) (fun c_13 => ?_)
            · exact imp_sub [(0, .ref (kad κ 81)), (1, .int (x1)), (2, .int (x2)), (3, .int (x3)), (4, .int (x4))] [0, 1, 2, 3, 4] rfl (hj_7 (x2) h_12)
            · refine r_iinc C 58 2 (nI 1) [(2, .int (x2 + (nI 1))), (0, .ref (kad κ 81)), (1, .int (x1)), (3, .int (x3)), (4, .int (x4))] dX1_countFalse_55 rfl (by decide) (by decide) rfl rfl ?_
              exact imp_sub [(0, .ref (kad κ 81)), (1, .int (x1)), (2, .int (x2 + (nI 1))), (3, .int (x3)), (4, .int (x4))] [1, 2, 0, 3, 4] rfl (hj_7 (x2 + (nI 1)) h_12)
    · exact imp_sub [(0, .ref (kad κ 81)), (1, .int (x1)), (2, .int (x2)), (3, .int (x3))] [0, 1, 2, 3] rfl (hk64 (x2) h)
set_option maxHeartbeats 4000000 in
set_option maxRecDepth 100000 in
theorem imp_f_X1_countFalse_L4 {κ : Kx (Int32 × CH)} (C : Cx κ cX1_countFalse RX1 5 6 (40 * 6) []) (x1 : Int32)    (Rr : Rt κ (some .int) (fun (q : Int32 × CH) (_ : Nat → Nat) => some (Value.int q.1)) (fun (q : (Int32 × CH)) => q.2)) : ∀ (n : Nat) (x2 : Int32) (x3 : Int32) (h : CH), Imp κ 4 [(0, .ref (kad κ 81)), (1, .int (x1)), (2, .int (x2)), (3, .int (x3))] [] h (f_X1_countFalse_L4 x1 n x2 x3 h) := by
  intro n
  induction n with
  | zero => intros; exact imp_none
  | succ n ih =>
    intro x2 x3 h
    rw [f_X1_countFalse_L4]
    refine r_iload_n C 5 3 rfl dX1_countFalse_4 rfl ?_
    refine r_aload_n C 6 0 rfl dX1_countFalse_5 rfl ?_
    refine r_getR C 9 dX1_countFalse_6 flX1_30 kt_81 rfl rf_81_0 rfl ?_
    refine r_getI C 12 dX1_countFalse_9 flX1_38 kt_7 rfl rfl ?_
    refine r_icmp_ge C 15 70 dX1_countFalse_12 (by decide) rfl (fun c_1 => ?_) (fun c_1 => ?_)
    · refine r_iconst C 16 (nI 0) (by decide) dX1_countFalse_15 rfl ?_
      refine r_istore C 18 [(4, .int ((nI 0))), (0, .ref (kad κ 81)), (1, .int (x1)), (2, .int (x2)), (3, .int (x3))] dX1_countFalse_16 (by decide) rfl rfl ?_
      refine imp_sub [(0, .ref (kad κ 81)), (1, .int (x1)), (2, .int (x2)), (3, .int (x3)), (4, .int ((nI 0)))] [1, 2, 3, 4, 0] rfl ?_
      refine imp_f_X1_countFalse_L18 C (x1) (x3) _ ?_ Rr FU (x2) ((nI 0)) h
      · intro x2_2 h_3
        refine r_iinc C 67 3 (nI 1) [(3, .int (x3 + (nI 1))), (0, .ref (kad κ 81)), (1, .int (x1)), (2, .int (x2_2))] dX1_countFalse_64 rfl (by decide) (by decide) rfl rfl ?_
        refine r_goto C 4 dX1_countFalse_67 (by decide) ?_
        exact imp_sub [(0, .ref (kad κ 81)), (1, .int (x1)), (2, .int (x2_2)), (3, .int (x3 + (nI 1)))] [1, 2, 3, 0] rfl (ih (x2_2) (x3 + (nI 1)) h_3)
    · refine r_iload_n C 71 2 rfl dX1_countFalse_70 rfl ?_
      exact r_iret C Rr dX1_countFalse_71 (fun _ => rfl) rfl
set_option maxHeartbeats 4000000 in
set_option maxRecDepth 100000 in
theorem imp_f_X1_countFalse {κ : Kx (Int32 × CH)} (C : Cx κ cX1_countFalse RX1 5 6 (40 * 6) []) (x1 : Int32)  (h : CH) (Rr : Rt κ (some .int) (fun (q : Int32 × CH) (_ : Nat → Nat) => some (Value.int q.1)) (fun (q : (Int32 × CH)) => q.2)) : Imp κ 0 [(0, .ref (kad κ 81)), (1, .int (x1))] [] h (f_X1_countFalse x1 h) := by
  unfold f_X1_countFalse
  refine r_iconst C 1 (nI 0) (by decide) dX1_countFalse_0 rfl ?_
  refine r_istore_n C 2 2 [(2, .int ((nI 0))), (0, .ref (kad κ 81)), (1, .int (x1))] dX1_countFalse_1 rfl (by decide) rfl rfl ?_
  refine r_iconst C 3 (nI 0) (by decide) dX1_countFalse_2 rfl ?_
  refine r_istore_n C 4 3 [(3, .int ((nI 0))), (2, .int ((nI 0))), (0, .ref (kad κ 81)), (1, .int (x1))] dX1_countFalse_3 rfl (by decide) rfl rfl ?_
  refine imp_sub [(0, .ref (kad κ 81)), (1, .int (x1)), (2, .int ((nI 0))), (3, .int ((nI 0)))] [2, 3, 1, 0] rfl ?_
  refine imp_f_X1_countFalse_L4 C (x1) Rr FU ((nI 0)) ((nI 0)) h
set_option maxHeartbeats 4000000 in
theorem ok_f_X1_countFalse (x1 : Int32)  (h : CH) : ∀ q, f_X1_countFalse x1 h = some q → MG yX1_countFalse cX1_countFalse 5 (some .int) [] 6 (fun ad => [.ref (ad 81), .int x1]) h ((fun (q : Int32 × CH) (_ : Nat → Nat) => some (Value.int q.1)) q) ((fun (q : (Int32 × CH)) => q.2) q) := mg_of RX1 (by decide) rfl (fun _ => Nat.le_of_ble_eq_true rfl) (fun κ C Rr => imp_f_X1_countFalse C x1 h Rr)
set_option maxHeartbeats 4000000 in
set_option maxRecDepth 100000 in
theorem imp_f_X1_countHeld_L4 {κ : Kx (Int32 × CH)} (C : Cx κ cX1_countHeld RX1 4 6 (40 * 6) []) (x1 : Int32)    (Rr : Rt κ (some .int) (fun (q : Int32 × CH) (_ : Nat → Nat) => some (Value.int q.1)) (fun (q : (Int32 × CH)) => q.2)) : ∀ (n : Nat) (x2 : Int32) (x3 : Int32) (h : CH), Imp κ 4 [(0, .ref (kad κ 81)), (1, .int (x1)), (2, .int (x2)), (3, .int (x3))] [] h (f_X1_countHeld_L4 x1 n x2 x3 h) := by
  intro n
  induction n with
  | zero => intros; exact imp_none
  | succ n ih =>
    intro x2 x3 h
    rw [f_X1_countHeld_L4]
    refine r_iload_n C 5 3 rfl dX1_countHeld_4 rfl ?_
    refine r_aload_n C 6 0 rfl dX1_countHeld_5 rfl ?_
    refine r_getR C 9 dX1_countHeld_6 flX1_30 kt_81 rfl rf_81_0 rfl ?_
    refine r_getI C 12 dX1_countHeld_9 flX1_38 kt_7 rfl rfl ?_
    refine r_icmp_ge C 15 42 dX1_countHeld_12 (by decide) rfl (fun c_1 => ?_) (fun c_1 => ?_)
    · refine r_aload_n C 16 0 rfl dX1_countHeld_15 rfl ?_
      refine r_iload_n C 17 3 rfl dX1_countHeld_16 rfl ?_
      refine r_iload_n C 18 1 rfl dX1_countHeld_17 rfl ?_
      refine r_cVpI C 21 [] (ok_f_X1_isOf x3 x1 h) dX1_countHeld_18 lvX1_97 kt_81 rfl rfl rfl (by decide) (Nat.le_of_ble_eq_true rfl) rfl rfl (Nat.le_of_ble_eq_true rfl) rfl rfl (fun v_2 => ?_)
      refine imp_jn (fun (j_5 : Int32 → CH → Option (Int32 × CH)) => ∀ (x2_3 : Int32) (h_4 : CH), Imp κ 36 [(0, .ref (kad κ 81)), (1, .int (x1)), (2, .int (x2_3)), (3, .int (x3))] [] h_4 (j_5 x2_3 h_4)) ?_ ?_
      · intro x2_3 h_4
        refine r_iinc C 39 3 (nI 1) [(3, .int (x3 + (nI 1))), (0, .ref (kad κ 81)), (1, .int (x1)), (2, .int (x2_3))] dX1_countHeld_36 rfl (by decide) (by decide) rfl rfl ?_
        refine r_goto C 4 dX1_countHeld_39 (by decide) ?_
        exact imp_sub [(0, .ref (kad κ 81)), (1, .int (x1)), (2, .int (x2_3)), (3, .int (x3 + (nI 1)))] [1, 2, 3, 0] rfl (ih (x2_3) (x3 + (nI 1)) h_4)
      · intro j_5 hj_5
        refine r_if_eq C 24 36 dX1_countHeld_21 (by decide) rfl (fun c_6 => ?_) (fun c_6 => ?_)
        · exact imp_sub [(0, .ref (kad κ 81)), (1, .int (x1)), (2, .int (x2)), (3, .int (x3))] [0, 1, 2, 3] rfl (hj_5 (x2) h)
        · refine r_aload_n C 25 0 rfl dX1_countHeld_24 rfl ?_
          refine r_iload_n C 26 3 rfl dX1_countHeld_25 rfl ?_
          refine r_iload_n C 27 3 rfl dX1_countHeld_26 rfl ?_
          refine r_cViI C 30 [] (ok_f_X1_letsInWith x3 x3 h) dX1_countHeld_27 lvX1_100 kt_81 rfl rfl rfl (by decide) (Nat.le_of_ble_eq_true rfl) rfl rfl (Nat.le_of_ble_eq_true rfl) rfl rfl (fun v_7 h_8 => ?_)
          refine r_if_ne C 33 36 dX1_countHeld_30 (by decide) rfl (fun c_9 => ?_) (fun c_9 => ?_)
          · refine r_iinc C 36 2 (nI 1) [(2, .int (x2 + (nI 1))), (0, .ref (kad κ 81)), (1, .int (x1)), (3, .int (x3))] dX1_countHeld_33 rfl (by decide) (by decide) rfl rfl ?_
            exact imp_sub [(0, .ref (kad κ 81)), (1, .int (x1)), (2, .int (x2 + (nI 1))), (3, .int (x3))] [1, 2, 0, 3] rfl (hj_5 (x2 + (nI 1)) h_8)
          · exact imp_sub [(0, .ref (kad κ 81)), (1, .int (x1)), (2, .int (x2)), (3, .int (x3))] [0, 1, 2, 3] rfl (hj_5 (x2) h_8)
    · refine r_iload_n C 43 2 rfl dX1_countHeld_42 rfl ?_
      exact r_iret C Rr dX1_countHeld_43 (fun _ => rfl) rfl
set_option maxHeartbeats 4000000 in
set_option maxRecDepth 100000 in
theorem imp_f_X1_countHeld {κ : Kx (Int32 × CH)} (C : Cx κ cX1_countHeld RX1 4 6 (40 * 6) []) (x1 : Int32)  (h : CH) (Rr : Rt κ (some .int) (fun (q : Int32 × CH) (_ : Nat → Nat) => some (Value.int q.1)) (fun (q : (Int32 × CH)) => q.2)) : Imp κ 0 [(0, .ref (kad κ 81)), (1, .int (x1))] [] h (f_X1_countHeld x1 h) := by
  unfold f_X1_countHeld
  refine r_iconst C 1 (nI 0) (by decide) dX1_countHeld_0 rfl ?_
  refine r_istore_n C 2 2 [(2, .int ((nI 0))), (0, .ref (kad κ 81)), (1, .int (x1))] dX1_countHeld_1 rfl (by decide) rfl rfl ?_
  refine r_iconst C 3 (nI 0) (by decide) dX1_countHeld_2 rfl ?_
  refine r_istore_n C 4 3 [(3, .int ((nI 0))), (2, .int ((nI 0))), (0, .ref (kad κ 81)), (1, .int (x1))] dX1_countHeld_3 rfl (by decide) rfl rfl ?_
  refine imp_sub [(0, .ref (kad κ 81)), (1, .int (x1)), (2, .int ((nI 0))), (3, .int ((nI 0)))] [2, 3, 1, 0] rfl ?_
  refine imp_f_X1_countHeld_L4 C (x1) Rr FU ((nI 0)) ((nI 0)) h
set_option maxHeartbeats 4000000 in
theorem ok_f_X1_countHeld (x1 : Int32)  (h : CH) : ∀ q, f_X1_countHeld x1 h = some q → MG yX1_countHeld cX1_countHeld 4 (some .int) [] 6 (fun ad => [.ref (ad 81), .int x1]) h ((fun (q : Int32 × CH) (_ : Nat → Nat) => some (Value.int q.1)) q) ((fun (q : (Int32 × CH)) => q.2) q) := mg_of RX1 (by decide) rfl (fun _ => Nat.le_of_ble_eq_true rfl) (fun κ C Rr => imp_f_X1_countHeld C x1 h Rr)
set_option maxHeartbeats 4000000 in
set_option maxRecDepth 100000 in
theorem imp_f_X11_gate {κ : Kx (Int32 × CH)} (C : Cx κ cX11_gate RX11 5 7 (40 * 7) []) (x1 : Int32) (x2 : Int32) (x3 : Int32) (x4 : Int32)  (h : CH) (Rr : Rt κ (some .int) (fun (q : Int32 × CH) (_ : Nat → Nat) => some (Value.int q.1)) (fun (q : (Int32 × CH)) => q.2)) : Imp κ 0 [(0, .ref (kad κ 0)), (1, .int (x1)), (2, .int (x2)), (3, .int (x3)), (4, .int (x4))] [] h (f_X11_gate x1 x2 x3 x4 h) := by
  unfold f_X11_gate
  refine r_iload_n C 1 1 rfl dX11_gate_0 rfl ?_
  refine r_if_lt C 4 28 dX11_gate_1 (by decide) rfl (fun c_1 => ?_) (fun c_1 => ?_)
  · refine r_iconst C 29 (-1) (by decide) dX11_gate_28 rfl ?_
    exact r_iret C Rr dX11_gate_29 (fun _ => rfl) rfl
  · refine r_iload_n C 5 1 rfl dX11_gate_4 rfl ?_
    refine r_iconst C 6 (nI 1) (by decide) dX11_gate_5 rfl ?_
    refine r_icmp_gt C 9 28 dX11_gate_6 (by decide) rfl (fun c_2 => ?_) (fun c_2 => ?_)
    · refine r_iconst C 29 (-1) (by decide) dX11_gate_28 rfl ?_
      exact r_iret C Rr dX11_gate_29 (fun _ => rfl) rfl
    · refine r_iload_n C 10 2 rfl dX11_gate_9 rfl ?_
      refine r_iconst C 11 (-1) (by decide) dX11_gate_10 rfl ?_
      refine r_icmp_lt C 14 28 dX11_gate_11 (by decide) rfl (fun c_3 => ?_) (fun c_3 => ?_)
      · refine r_iconst C 29 (-1) (by decide) dX11_gate_28 rfl ?_
        exact r_iret C Rr dX11_gate_29 (fun _ => rfl) rfl
      · refine r_iload_n C 15 2 rfl dX11_gate_14 rfl ?_
        refine r_iconst C 16 (nI 4) (by decide) dX11_gate_15 rfl ?_
        refine r_icmp_ge C 19 28 dX11_gate_16 (by decide) rfl (fun c_4 => ?_) (fun c_4 => ?_)
        · refine r_iload_n C 20 3 rfl dX11_gate_19 rfl ?_
          refine r_iload C 22 4 rfl dX11_gate_20 rfl ?_
          refine r_cSpI C 25 [] (ok_f_X11_isWhen x3 x4 h) dX11_gate_22 lsX11_177 rfl (by decide) (Nat.le_of_ble_eq_true rfl) rfl rfl (Nat.le_of_ble_eq_true rfl) rfl rfl (fun v_5 => ?_)
          refine r_if_ne C 28 30 dX11_gate_25 (by decide) rfl (fun c_6 => ?_) (fun c_6 => ?_)
          · refine r_iconst C 29 (-1) (by decide) dX11_gate_28 rfl ?_
            exact r_iret C Rr dX11_gate_29 (fun _ => rfl) rfl
          · refine r_aload_n C 31 0 rfl dX11_gate_30 rfl ?_
            refine r_getR C 34 dX11_gate_31 flX11_75 kt_0 rfl rf_0_12 rfl ?_
            refine r_iload_n C 35 3 rfl dX11_gate_34 rfl ?_
            refine r_iload C 37 4 rfl dX11_gate_35 rfl ?_
            refine r_cViV C 40 [] (ok_f_X1_open x3 x4 h) dX11_gate_37 lvX11_181 kt_81 rfl rfl rfl (by decide) (Nat.le_of_ble_eq_true rfl) rfl rfl (Nat.le_of_ble_eq_true rfl) rfl rfl (fun _ h_7 => ?_)
            refine r_iload_n C 41 1 rfl dX11_gate_40 rfl ?_
            refine r_if_ne C 44 55 dX11_gate_41 (by decide) rfl (fun c_8 => ?_) (fun c_8 => ?_)
            · refine r_aload_n C 45 0 rfl dX11_gate_44 rfl ?_
              refine r_getR C 48 dX11_gate_45 flX11_75 kt_0 rfl rf_0_12 rfl ?_
              refine r_iload_n C 49 2 rfl dX11_gate_48 rfl ?_
              refine r_cViI C 52 [] (ok_f_X1_countFalse x2 h_7) dX11_gate_49 lvX11_211 kt_81 rfl rfl rfl (by decide) (Nat.le_of_ble_eq_true rfl) rfl rfl (Nat.le_of_ble_eq_true rfl) rfl rfl (fun v_9 h_10 => ?_)
              refine r_goto C 63 dX11_gate_52 (by decide) ?_
              exact r_iret C Rr dX11_gate_63 (fun _ => rfl) rfl
            · refine r_aload_n C 56 0 rfl dX11_gate_55 rfl ?_
              refine r_getR C 59 dX11_gate_56 flX11_75 kt_0 rfl rf_0_12 rfl ?_
              refine r_iload_n C 60 2 rfl dX11_gate_59 rfl ?_
              refine r_cViI C 63 [] (ok_f_X1_countHeld x2 h_7) dX11_gate_60 lvX11_214 kt_81 rfl rfl rfl (by decide) (Nat.le_of_ble_eq_true rfl) rfl rfl (Nat.le_of_ble_eq_true rfl) rfl rfl (fun v_11 h_12 => ?_)
              exact r_iret C Rr dX11_gate_63 (fun _ => rfl) rfl
        · refine r_iconst C 29 (-1) (by decide) dX11_gate_28 rfl ?_
          exact r_iret C Rr dX11_gate_29 (fun _ => rfl) rfl
set_option maxHeartbeats 4000000 in
theorem ok_f_X11_gate (x1 : Int32) (x2 : Int32) (x3 : Int32) (x4 : Int32)  (h : CH) : ∀ q, f_X11_gate x1 x2 x3 x4 h = some q → MG yX11_gate cX11_gate 5 (some .int) [] 7 (fun ad => [.ref (ad 0), .int x1, .int x2, .int x3, .int x4]) h ((fun (q : Int32 × CH) (_ : Nat → Nat) => some (Value.int q.1)) q) ((fun (q : (Int32 × CH)) => q.2) q) := mg_of RX11 (by decide) rfl (fun _ => Nat.le_of_ble_eq_true rfl) (fun κ C Rr => imp_f_X11_gate C x1 x2 x3 x4 h Rr)
set_option maxHeartbeats 4000000 in
set_option maxRecDepth 100000 in
theorem imp_f_X1_countTwins_L19 {κ : Kx (Int32 × CH)} (C : Cx κ cX1_countTwins RX1 4 6 (40 * 6) []) (x2 : Int32)  (k57 : Int32 → CH → Option (Int32 × CH)) (hk57 : ∀ (x1_2 : Int32) (h_3 : CH), Imp κ 57 [(0, .ref (kad κ 81)), (1, .int (x1_2)), (2, .int (x2))] [] h_3 (k57 x1_2 h_3)) (Rr : Rt κ (some .int) (fun (q : Int32 × CH) (_ : Nat → Nat) => some (Value.int q.1)) (fun (q : (Int32 × CH)) => q.2)) : ∀ (n : Nat) (x1 : Int32) (x3 : Int32) (h : CH), Imp κ 19 [(0, .ref (kad κ 81)), (1, .int (x1)), (2, .int (x2)), (3, .int (x3))] [] h (f_X1_countTwins_L19 x2 k57 n x1 x3 h) := by
  intro n
  induction n with
  | zero => intros; exact imp_none
  | succ n ih =>
    intro x1 x3 h
    rw [f_X1_countTwins_L19]
    refine r_iload_n C 20 3 rfl dX1_countTwins_19 rfl ?_
    refine r_aload_n C 21 0 rfl dX1_countTwins_20 rfl ?_
    refine r_getR C 24 dX1_countTwins_21 flX1_30 kt_81 rfl rf_81_0 rfl ?_
    refine r_getI C 27 dX1_countTwins_24 flX1_38 kt_7 rfl rfl ?_
    refine r_icmp_ge C 30 57 dX1_countTwins_27 (by decide) rfl (fun c_4 => ?_) (fun c_4 => ?_)
    · refine r_aload_n C 31 0 rfl dX1_countTwins_30 rfl ?_
      refine r_iload_n C 32 2 rfl dX1_countTwins_31 rfl ?_
      refine r_iload_n C 33 3 rfl dX1_countTwins_32 rfl ?_
      refine r_cViI C 36 [] (ok_f_X1_letsInWith x2 x3 h) dX1_countTwins_33 lvX1_100 kt_81 rfl rfl rfl (by decide) (Nat.le_of_ble_eq_true rfl) rfl rfl (Nat.le_of_ble_eq_true rfl) rfl rfl (fun v_5 h_6 => ?_)
      refine imp_jn (fun (j_9 : Int32 → CH → Option (Int32 × CH)) => ∀ (x1_7 : Int32) (h_8 : CH), Imp κ 51 [(0, .ref (kad κ 81)), (1, .int (x1_7)), (2, .int (x2)), (3, .int (x3))] [] h_8 (j_9 x1_7 h_8)) ?_ ?_
      · intro x1_7 h_8
        refine r_iinc C 54 3 (nI 1) [(3, .int (x3 + (nI 1))), (0, .ref (kad κ 81)), (1, .int (x1_7)), (2, .int (x2))] dX1_countTwins_51 rfl (by decide) (by decide) rfl rfl ?_
        refine r_goto C 19 dX1_countTwins_54 (by decide) ?_
        exact imp_sub [(0, .ref (kad κ 81)), (1, .int (x1_7)), (2, .int (x2)), (3, .int (x3 + (nI 1)))] [1, 2, 3, 0] rfl (ih (x1_7) (x3 + (nI 1)) h_8)
      · intro j_9 hj_9
        refine r_if_eq C 39 51 dX1_countTwins_36 (by decide) rfl (fun c_10 => ?_) (fun c_10 => ?_)
        · exact imp_sub [(0, .ref (kad κ 81)), (1, .int (x1)), (2, .int (x2)), (3, .int (x3))] [0, 1, 2, 3] rfl (hj_9 (x1) h_6)
        · refine r_aload_n C 40 0 rfl dX1_countTwins_39 rfl ?_
          refine r_iload_n C 41 3 rfl dX1_countTwins_40 rfl ?_
          refine r_iload_n C 42 2 rfl dX1_countTwins_41 rfl ?_
          refine r_cViI C 45 [] (ok_f_X1_letsInWith x3 x2 h_6) dX1_countTwins_42 lvX1_100 kt_81 rfl rfl rfl (by decide) (Nat.le_of_ble_eq_true rfl) rfl rfl (Nat.le_of_ble_eq_true rfl) rfl rfl (fun v_11 h_12 => ?_)
          refine r_if_eq C 48 51 dX1_countTwins_45 (by decide) rfl (fun c_13 => ?_) (fun c_13 => ?_)
          · exact imp_sub [(0, .ref (kad κ 81)), (1, .int (x1)), (2, .int (x2)), (3, .int (x3))] [0, 1, 2, 3] rfl (hj_9 (x1) h_12)
          · refine r_iinc C 51 1 (nI 1) [(1, .int (x1 + (nI 1))), (0, .ref (kad κ 81)), (2, .int (x2)), (3, .int (x3))] dX1_countTwins_48 rfl (by decide) (by decide) rfl rfl ?_
            exact imp_sub [(0, .ref (kad κ 81)), (1, .int (x1 + (nI 1))), (2, .int (x2)), (3, .int (x3))] [1, 0, 2, 3] rfl (hj_9 (x1 + (nI 1)) h_12)
    · exact imp_sub [(0, .ref (kad κ 81)), (1, .int (x1)), (2, .int (x2))] [0, 1, 2] rfl (hk57 (x1) h)
set_option maxHeartbeats 4000000 in
set_option maxRecDepth 100000 in
theorem imp_f_X1_countTwins_L4 {κ : Kx (Int32 × CH)} (C : Cx κ cX1_countTwins RX1 4 6 (40 * 6) [])     (Rr : Rt κ (some .int) (fun (q : Int32 × CH) (_ : Nat → Nat) => some (Value.int q.1)) (fun (q : (Int32 × CH)) => q.2)) : ∀ (n : Nat) (x1 : Int32) (x2 : Int32) (h : CH), Imp κ 4 [(0, .ref (kad κ 81)), (1, .int (x1)), (2, .int (x2))] [] h (f_X1_countTwins_L4 n x1 x2 h) := by
  intro n
  induction n with
  | zero => intros; exact imp_none
  | succ n ih =>
    intro x1 x2 h
    rw [f_X1_countTwins_L4]
    refine r_iload_n C 5 2 rfl dX1_countTwins_4 rfl ?_
    refine r_aload_n C 6 0 rfl dX1_countTwins_5 rfl ?_
    refine r_getR C 9 dX1_countTwins_6 flX1_30 kt_81 rfl rf_81_0 rfl ?_
    refine r_getI C 12 dX1_countTwins_9 flX1_38 kt_7 rfl rfl ?_
    refine r_icmp_ge C 15 63 dX1_countTwins_12 (by decide) rfl (fun c_1 => ?_) (fun c_1 => ?_)
    · refine r_iload_n C 16 2 rfl dX1_countTwins_15 rfl ?_
      refine r_iconst C 17 (nI 1) (by decide) dX1_countTwins_16 rfl ?_
      refine r_iadd C 18 dX1_countTwins_17 rfl ?_
      refine r_istore_n C 19 3 [(3, .int ((x2) + ((nI 1)))), (0, .ref (kad κ 81)), (1, .int (x1)), (2, .int (x2))] dX1_countTwins_18 rfl (by decide) rfl rfl ?_
      refine imp_sub [(0, .ref (kad κ 81)), (1, .int (x1)), (2, .int (x2)), (3, .int ((x2) + ((nI 1))))] [1, 2, 3, 0] rfl ?_
      refine imp_f_X1_countTwins_L19 C (x2) _ ?_ Rr FU (x1) ((x2) + ((nI 1))) h
      · intro x1_2 h_3
        refine r_iinc C 60 2 (nI 1) [(2, .int (x2 + (nI 1))), (0, .ref (kad κ 81)), (1, .int (x1_2))] dX1_countTwins_57 rfl (by decide) (by decide) rfl rfl ?_
        refine r_goto C 4 dX1_countTwins_60 (by decide) ?_
        exact imp_sub [(0, .ref (kad κ 81)), (1, .int (x1_2)), (2, .int (x2 + (nI 1)))] [1, 2, 0] rfl (ih (x1_2) (x2 + (nI 1)) h_3)
    · refine r_iload_n C 64 1 rfl dX1_countTwins_63 rfl ?_
      exact r_iret C Rr dX1_countTwins_64 (fun _ => rfl) rfl
set_option maxHeartbeats 4000000 in
set_option maxRecDepth 100000 in
theorem imp_f_X1_countTwins {κ : Kx (Int32 × CH)} (C : Cx κ cX1_countTwins RX1 4 6 (40 * 6) [])   (h : CH) (Rr : Rt κ (some .int) (fun (q : Int32 × CH) (_ : Nat → Nat) => some (Value.int q.1)) (fun (q : (Int32 × CH)) => q.2)) : Imp κ 0 [(0, .ref (kad κ 81))] [] h (f_X1_countTwins h) := by
  unfold f_X1_countTwins
  refine r_iconst C 1 (nI 0) (by decide) dX1_countTwins_0 rfl ?_
  refine r_istore_n C 2 1 [(1, .int ((nI 0))), (0, .ref (kad κ 81))] dX1_countTwins_1 rfl (by decide) rfl rfl ?_
  refine r_iconst C 3 (nI 0) (by decide) dX1_countTwins_2 rfl ?_
  refine r_istore_n C 4 2 [(2, .int ((nI 0))), (1, .int ((nI 0))), (0, .ref (kad κ 81))] dX1_countTwins_3 rfl (by decide) rfl rfl ?_
  refine imp_sub [(0, .ref (kad κ 81)), (1, .int ((nI 0))), (2, .int ((nI 0)))] [2, 1, 0] rfl ?_
  refine imp_f_X1_countTwins_L4 C Rr FU ((nI 0)) ((nI 0)) h
set_option maxHeartbeats 4000000 in
theorem ok_f_X1_countTwins   (h : CH) : ∀ q, f_X1_countTwins h = some q → MG yX1_countTwins cX1_countTwins 4 (some .int) [] 6 (fun ad => [.ref (ad 81)]) h ((fun (q : Int32 × CH) (_ : Nat → Nat) => some (Value.int q.1)) q) ((fun (q : (Int32 × CH)) => q.2) q) := mg_of RX1 (by decide) rfl (fun _ => Nat.le_of_ble_eq_true rfl) (fun κ C Rr => imp_f_X1_countTwins C  h Rr)
set_option maxHeartbeats 4000000 in
set_option maxRecDepth 100000 in
theorem imp_f_X11_twins {κ : Kx (Int32 × CH)} (C : Cx κ cX11_twins RX11 3 7 (40 * 7) []) (x1 : Int32) (x2 : Int32)  (h : CH) (Rr : Rt κ (some .int) (fun (q : Int32 × CH) (_ : Nat → Nat) => some (Value.int q.1)) (fun (q : (Int32 × CH)) => q.2)) : Imp κ 0 [(0, .ref (kad κ 0)), (1, .int (x1)), (2, .int (x2))] [] h (f_X11_twins x1 x2 h) := by
  unfold f_X11_twins
  refine r_iload_n C 1 1 rfl dX11_twins_0 rfl ?_
  refine r_iload_n C 2 2 rfl dX11_twins_1 rfl ?_
  refine r_cSpI C 5 [] (ok_f_X11_isWhen x1 x2 h) dX11_twins_2 lsX11_177 rfl (by decide) (Nat.le_of_ble_eq_true rfl) rfl rfl (Nat.le_of_ble_eq_true rfl) rfl rfl (fun v_1 => ?_)
  refine r_if_ne C 8 10 dX11_twins_5 (by decide) rfl (fun c_2 => ?_) (fun c_2 => ?_)
  · refine r_iconst C 9 (-1) (by decide) dX11_twins_8 rfl ?_
    exact r_iret C Rr dX11_twins_9 (fun _ => rfl) rfl
  · refine r_aload_n C 11 0 rfl dX11_twins_10 rfl ?_
    refine r_getR C 14 dX11_twins_11 flX11_75 kt_0 rfl rf_0_12 rfl ?_
    refine r_iload_n C 15 1 rfl dX11_twins_14 rfl ?_
    refine r_iload_n C 16 2 rfl dX11_twins_15 rfl ?_
    refine r_cViV C 19 [] (ok_f_X1_open x1 x2 h) dX11_twins_16 lvX11_181 kt_81 rfl rfl rfl (by decide) (Nat.le_of_ble_eq_true rfl) rfl rfl (Nat.le_of_ble_eq_true rfl) rfl rfl (fun _ h_3 => ?_)
    refine r_aload_n C 20 0 rfl dX11_twins_19 rfl ?_
    refine r_getR C 23 dX11_twins_20 flX11_75 kt_0 rfl rf_0_12 rfl ?_
    refine r_cViI C 26 [] (ok_f_X1_countTwins h_3) dX11_twins_23 lvX11_217 kt_81 rfl rfl rfl (by decide) (Nat.le_of_ble_eq_true rfl) rfl rfl (Nat.le_of_ble_eq_true rfl) rfl rfl (fun v_4 h_5 => ?_)
    exact r_iret C Rr dX11_twins_26 (fun _ => rfl) rfl
set_option maxHeartbeats 4000000 in
theorem ok_f_X11_twins (x1 : Int32) (x2 : Int32)  (h : CH) : ∀ q, f_X11_twins x1 x2 h = some q → MG yX11_twins cX11_twins 3 (some .int) [] 7 (fun ad => [.ref (ad 0), .int x1, .int x2]) h ((fun (q : Int32 × CH) (_ : Nat → Nat) => some (Value.int q.1)) q) ((fun (q : (Int32 × CH)) => q.2) q) := mg_of RX11 (by decide) rfl (fun _ => Nat.le_of_ble_eq_true rfl) (fun κ C Rr => imp_f_X11_twins C x1 x2 h Rr)
set_option maxHeartbeats 4000000 in
set_option maxRecDepth 100000 in
theorem imp_f_X11_until_L22 {κ : Kx (Int32 × CH)} (C : Cx κ cX11_until RX11 4 6 (40 * 6) []) (x1 : Int32) (x2 : Int32)    (Rr : Rt κ (some .int) (fun (q : Int32 × CH) (_ : Nat → Nat) => some (Value.int q.1)) (fun (q : (Int32 × CH)) => q.2)) : ∀ (n : Nat) (x3 : Int32) (h : CH), Imp κ 22 [(0, .ref (kad κ 0)), (1, .int (x1)), (2, .int (x2)), (3, .int (x3))] [] h (f_X11_until_L22 x1 x2 n x3 h) := by
  intro n
  induction n with
  | zero => intros; exact imp_none
  | succ n ih =>
    intro x3 h
    rw [f_X11_until_L22]
    refine r_iload_n C 23 3 rfl dX11_until_22 rfl ?_
    refine r_bipush C 25 (nI 60) (by decide) dX11_until_23 rfl ?_
    refine r_icmp_gt C 28 57 dX11_until_25 (by decide) rfl (fun c_5 => ?_) (fun c_5 => ?_)
    · refine r_iconst C 58 (-1) (by decide) dX11_until_57 rfl ?_
      exact r_iret C Rr dX11_until_58 (fun _ => rfl) rfl
    · refine r_aload_n C 29 0 rfl dX11_until_28 rfl ?_
      refine r_getR C 32 dX11_until_29 flX11_75 kt_0 rfl rf_0_12 rfl ?_
      refine r_iload_n C 33 3 rfl dX11_until_32 rfl ?_
      refine r_iload_n C 34 2 rfl dX11_until_33 rfl ?_
      refine r_cViV C 37 [] (ok_f_X1_open x3 x2 h) dX11_until_34 lvX11_181 kt_81 rfl rfl rfl (by decide) (Nat.le_of_ble_eq_true rfl) rfl rfl (Nat.le_of_ble_eq_true rfl) rfl rfl (fun _ h_6 => ?_)
      refine r_aload_n C 38 0 rfl dX11_until_37 rfl ?_
      refine r_getR C 41 dX11_until_38 flX11_75 kt_0 rfl rf_0_12 rfl ?_
      refine r_iload_n C 42 1 rfl dX11_until_41 rfl ?_
      refine r_iload_n C 43 1 rfl dX11_until_42 rfl ?_
      refine r_cViI C 46 [] (ok_f_X1_letsInWith x1 x1 h_6) dX11_until_43 lvX11_184 kt_81 rfl rfl rfl (by decide) (Nat.le_of_ble_eq_true rfl) rfl rfl (Nat.le_of_ble_eq_true rfl) rfl rfl (fun v_7 h_8 => ?_)
      refine r_if_ne C 49 51 dX11_until_46 (by decide) rfl (fun c_9 => ?_) (fun c_9 => ?_)
      · refine r_iload_n C 50 3 rfl dX11_until_49 rfl ?_
        exact r_iret C Rr dX11_until_50 (fun _ => rfl) rfl
      · refine r_iinc C 54 3 (nI 1) [(3, .int (x3 + (nI 1))), (0, .ref (kad κ 0)), (1, .int (x1)), (2, .int (x2))] dX11_until_51 rfl (by decide) (by decide) rfl rfl ?_
        refine r_goto C 22 dX11_until_54 (by decide) ?_
        exact imp_sub [(0, .ref (kad κ 0)), (1, .int (x1)), (2, .int (x2)), (3, .int (x3 + (nI 1)))] [1, 2, 3, 0] rfl (ih (x3 + (nI 1)) h_8)
set_option maxHeartbeats 4000000 in
set_option maxRecDepth 100000 in
theorem imp_f_X11_until {κ : Kx (Int32 × CH)} (C : Cx κ cX11_until RX11 4 6 (40 * 6) []) (x1 : Int32) (x2 : Int32)  (h : CH) (Rr : Rt κ (some .int) (fun (q : Int32 × CH) (_ : Nat → Nat) => some (Value.int q.1)) (fun (q : (Int32 × CH)) => q.2)) : Imp κ 0 [(0, .ref (kad κ 0)), (1, .int (x1)), (2, .int (x2))] [] h (f_X11_until x1 x2 h) := by
  unfold f_X11_until
  refine r_aload_n C 1 0 rfl dX11_until_0 rfl ?_
  refine r_getR C 4 dX11_until_1 flX11_35 kt_0 rfl rf_0_5 rfl ?_
  refine r_iload_n C 5 1 rfl dX11_until_4 rfl ?_
  refine r_cVpI C 8 [] (ok_f_X9_has_7 x1 h) dX11_until_5 lvX11_160 kt_7 rfl rfl rfl (by decide) (Nat.le_of_ble_eq_true rfl) rfl rfl (Nat.le_of_ble_eq_true rfl) rfl rfl (fun v_1 => ?_)
  refine r_if_eq C 11 18 dX11_until_8 (by decide) rfl (fun c_2 => ?_) (fun c_2 => ?_)
  · refine r_iconst C 19 (-1) (by decide) dX11_until_18 rfl ?_
    exact r_iret C Rr dX11_until_19 (fun _ => rfl) rfl
  · refine r_iload_n C 12 2 rfl dX11_until_11 rfl ?_
    refine r_cSpI C 15 [] (ok_f_X11_isLight x2 h) dX11_until_12 lsX11_220 rfl (by decide) (Nat.le_of_ble_eq_true rfl) rfl rfl (Nat.le_of_ble_eq_true rfl) rfl rfl (fun v_3 => ?_)
    refine r_if_ne C 18 20 dX11_until_15 (by decide) rfl (fun c_4 => ?_) (fun c_4 => ?_)
    · refine r_iconst C 19 (-1) (by decide) dX11_until_18 rfl ?_
      exact r_iret C Rr dX11_until_19 (fun _ => rfl) rfl
    · refine r_iconst C 21 (nI 0) (by decide) dX11_until_20 rfl ?_
      refine r_istore_n C 22 3 [(3, .int ((nI 0))), (0, .ref (kad κ 0)), (1, .int (x1)), (2, .int (x2))] dX11_until_21 rfl (by decide) rfl rfl ?_
      refine imp_sub [(0, .ref (kad κ 0)), (1, .int (x1)), (2, .int (x2)), (3, .int ((nI 0)))] [1, 2, 3, 0] rfl ?_
      refine imp_f_X11_until_L22 C (x1) (x2) Rr FU ((nI 0)) h
set_option maxHeartbeats 4000000 in
theorem ok_f_X11_until (x1 : Int32) (x2 : Int32)  (h : CH) : ∀ q, f_X11_until x1 x2 h = some q → MG yX11_until cX11_until 4 (some .int) [] 6 (fun ad => [.ref (ad 0), .int x1, .int x2]) h ((fun (q : Int32 × CH) (_ : Nat → Nat) => some (Value.int q.1)) q) ((fun (q : (Int32 × CH)) => q.2) q) := mg_of RX11 (by decide) rfl (fun _ => Nat.le_of_ble_eq_true rfl) (fun κ C Rr => imp_f_X11_until C x1 x2 h Rr)
