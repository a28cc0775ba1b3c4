/-! the methods do what the functions say, by program -/
set_option maxHeartbeats 4000000 in
set_option maxRecDepth 100000 in
theorem imp_f_X6_relationHere {κ : Kx Int32} (C : Cx κ cX6_relationHere RX6 1 1 (40 * 1) [194])   (h : CH) (Rr : Rt κ (some .int) (fun (x : Int32) (_ : Nat → Nat) => some (Value.int x)) (fun (_ : Int32) => h)) : Imp κ 0 [(0, .ref (kad κ 194))] [] h (f_X6_relationHere h) := by
  unfold f_X6_relationHere
  refine r_aload_n C 1 0 rfl dX6_relationHere_0 rfl ?_
  refine r_getR C 4 dX6_relationHere_1 flX6_15 kt_194 rfl rf_194_0 rfl ?_
  refine r_getI C 7 dX6_relationHere_4 flX6_32 kt_2 rfl rfl ?_
  refine imp_ite (fun g_1 => ?_) (fun g_1 => ?_)
  · refine r_tsIn C 32 (nI 60) g_1 dX6_relationHere_7 (by decide) (by decide) rfl (by decide) ?_
    refine r_bipush C 34 (nI 6) (by decide) dX6_relationHere_32 rfl ?_
    exact r_iret C Rr dX6_relationHere_34 (fun _ => rfl) rfl
  · refine imp_ite (fun g_2 => ?_) (fun g_2 => ?_)
    · refine r_tsIn C 38 (nI 61) g_2 dX6_relationHere_7 (by decide) (by decide) rfl (by decide) ?_
      refine r_bipush C 40 (nI 8) (by decide) dX6_relationHere_38 rfl ?_
      exact r_iret C Rr dX6_relationHere_40 (fun _ => rfl) rfl
    · refine imp_ite (fun g_3 => ?_) (fun g_3 => ?_)
      · refine r_tsIn C 35 (nI 62) g_3 dX6_relationHere_7 (by decide) (by decide) rfl (by decide) ?_
        refine r_bipush C 37 (nI 7) (by decide) dX6_relationHere_35 rfl ?_
        exact r_iret C Rr dX6_relationHere_37 (fun _ => rfl) rfl
      · refine r_tsOut C 41 dX6_relationHere_7 (ts_out ?_) (by decide) ?_
        · intro v h1 h2 e
          have hv : v = 60 ∨ v = 61 ∨ v = 62 := by omega
          rcases hv with rfl | rfl | rfl
          · exact g_1 (e.trans (by decide))
          · exact g_2 (e.trans (by decide))
          · exact g_3 (e.trans (by decide))
        · refine r_iconst C 42 (-1) (by decide) dX6_relationHere_41 rfl ?_
          exact r_iret C Rr dX6_relationHere_42 (fun _ => rfl) rfl
set_option maxHeartbeats 4000000 in
theorem ok_f_X6_relationHere   (h : CH) : ∀ q, f_X6_relationHere h = some q → MG yX6_relationHere cX6_relationHere 1 (some .int) [194] 1 (fun ad => [.ref (ad 194)]) h ((fun (x : Int32) (_ : Nat → Nat) => some (Value.int x)) q) ((fun (_ : Int32) => h) q) := mg_of RX6 (by decide) rfl (fun _ => Nat.le_of_ble_eq_true rfl) (fun κ C Rr => imp_f_X6_relationHere C  h Rr)
def G8 (g : Nat → Int32 → CH → Option (Int32 × CH)) (d : Nat) : Prop := (∀ (x : Int32) (h : CH), ∀ q, g 0 x h = some q → MG yX6_readE cX6_readE 3 (some .boolean) [194] d (fun ad => [.ref (ad 194), .int x]) h ((fun (q : Int32 × CH) (_ : Nat → Nat) => some (Value.int q.1)) q) ((fun (q : (Int32 × CH)) => q.2) q)) ∧ (∀ (x : Int32) (h : CH), ∀ q, g 1 x h = some q → MG yX6_readBoth cX6_readBoth 3 (some .boolean) [194] d (fun ad => [.ref (ad 194), .int x]) h ((fun (q : Int32 × CH) (_ : Nat → Nat) => some (Value.int q.1)) q) ((fun (q : (Int32 × CH)) => q.2) q)) ∧ (∀ (x : Int32) (h : CH), ∀ q, g 2 x h = some q → MG yX6_readOne cX6_readOne 2 (some .boolean) [194] d (fun ad => [.ref (ad 194), .int x]) h ((fun (q : Int32 × CH) (_ : Nat → Nat) => some (Value.int q.1)) q) ((fun (q : (Int32 × CH)) => q.2) q)) ∧ (∀ (x : Int32) (h : CH), ∀ q, g 3 x h = some q → MG yX6_readRelation cX6_readRelation 3 (some .boolean) [194] d (fun ad => [.ref (ad 194), .int x]) h ((fun (q : Int32 × CH) (_ : Nat → Nat) => some (Value.int q.1)) q) ((fun (q : (Int32 × CH)) => q.2) q)) ∧ (∀ (x : Int32) (h : CH), ∀ q, g 4 x h = some q → MG yX6_readSum cX6_readSum 4 (some .boolean) [194] d (fun ad => [.ref (ad 194), .int x]) h ((fun (q : Int32 × CH) (_ : Nat → Nat) => some (Value.int q.1)) q) ((fun (q : (Int32 × CH)) => q.2) q)) ∧ (∀ (x : Int32) (h : CH), ∀ q, g 5 x h = some q → MG yX6_readTerm cX6_readTerm 3 (some .boolean) [194] d (fun ad => [.ref (ad 194), .int x]) h ((fun (q : Int32 × CH) (_ : Nat → Nat) => some (Value.int q.1)) q) ((fun (q : (Int32 × CH)) => q.2) q)) ∧ (∀ (x : Int32) (h : CH), ∀ q, g 6 x h = some q → MG yX6_readUnit cX6_readUnit 2 (some .boolean) [194] d (fun ad => [.ref (ad 194), .int x]) h ((fun (q : Int32 × CH) (_ : Nat → Nat) => some (Value.int q.1)) q) ((fun (q : (Int32 × CH)) => q.2) q)) ∧ (∀ (x : Int32) (h : CH), ∀ q, g 7 x h = some q → MG yX6_readInner cX6_readInner 2 (some .boolean) [194] d (fun ad => [.ref (ad 194), .int x]) h ((fun (q : Int32 × CH) (_ : Nat → Nat) => some (Value.int q.1)) q) ((fun (q : (Int32 × CH)) => q.2) q))
set_option maxHeartbeats 4000000 in
set_option maxRecDepth 100000 in
theorem imp_b_X6_readInner (g : Nat → Int32 → CH → Option (Int32 × CH)) {d : Nat} (hd0 : 3 ≤ d) (hG : G8 g d) {κ : Kx (Int32 × CH)} (C : Cx κ cX6_readInner RX6 2 (d + 1) (40 * (d + 1)) [194]) (x1 : Int32)  (h : CH) (Rr : Rt κ (some .boolean) (fun (q : Int32 × CH) (_ : Nat → Nat) => some (Value.int q.1)) (fun (q : (Int32 × CH)) => q.2)) : Imp κ 0 [(0, .ref (kad κ 194)), (1, .int (x1))] [] h (b_X6_readInner g x1 h) := by
  unfold b_X6_readInner
  refine r_iload_n C 1 1 rfl dX6_readInner_0 rfl ?_
  refine r_bipush C 3 (nI 6) (by decide) dX6_readInner_1 rfl ?_
  refine r_icmp_le C 6 15 dX6_readInner_3 (by decide) rfl (fun c_1 => ?_) (fun c_1 => ?_)
  · refine r_aload_n C 7 0 rfl dX6_readInner_6 rfl ?_
    refine r_getR C 10 dX6_readInner_7 flX6_15 kt_194 rfl rf_194_0 rfl ?_
    refine r_iconst C 11 (nI 2) (by decide) dX6_readInner_10 rfl ?_
    refine r_cViI C 14 [] (ok_f_X8_refuse ((nI 2)) h) dX6_readInner_11 lvX6_47 kt_2 rfl rfl rfl (by omega) (by omega) rfl rfl (Nat.le_of_ble_eq_true rfl) rfl rfl (fun v_2 h_3 => ?_)
    exact r_zretg C Rr dX6_readInner_14 (fun _ => rfl) rfl
  · refine r_aload_n C 16 0 rfl dX6_readInner_15 rfl ?_
    refine r_getR C 19 dX6_readInner_16 flX6_15 kt_194 rfl rf_194_0 rfl ?_
    refine r_cViV C 22 [] (ok_f_X8_step h) dX6_readInner_19 lvX6_54 kt_2 rfl rfl rfl (by omega) (by omega) rfl rfl (Nat.le_of_ble_eq_true rfl) rfl rfl (fun _ h_4 => ?_)
    refine r_aload_n C 23 0 rfl dX6_readInner_22 rfl ?_
    refine r_iload_n C 24 1 rfl dX6_readInner_23 rfl ?_
    refine r_iconst C 25 (nI 1) (by decide) dX6_readInner_24 rfl ?_
    refine r_iadd C 26 dX6_readInner_25 rfl ?_
    refine r_cViI C 29 [] (hG.1 ((x1) + ((nI 1))) h_4) dX6_readInner_26 lvX6_61 kt_194 rfl rfl rfl (Nat.le_refl _) (by omega) rfl rfl (Nat.le_of_ble_eq_true rfl) rfl rfl (fun v_5 h_6 => ?_)
    refine r_if_eq C 32 48 dX6_readInner_29 (by decide) rfl (fun c_7 => ?_) (fun c_7 => ?_)
    · refine r_iconst C 49 (nI 0) (by decide) dX6_readInner_48 rfl ?_
      exact r_zret C Rr (by decide) dX6_readInner_49 (fun _ => rfl) rfl
    · refine r_aload_n C 33 0 rfl dX6_readInner_32 rfl ?_
      refine r_getR C 36 dX6_readInner_33 flX6_15 kt_194 rfl rf_194_0 rfl ?_
      refine r_bipush C 38 (nI 41) (by decide) dX6_readInner_36 rfl ?_
      refine r_cViI C 41 [] (ok_f_X8_take ((nI 41)) h_6) dX6_readInner_38 lvX6_64 kt_2 rfl rfl rfl (by omega) (by omega) rfl rfl (Nat.le_of_ble_eq_true rfl) rfl rfl (fun v_8 h_9 => ?_)
      refine r_if_eq C 44 48 dX6_readInner_41 (by decide) rfl (fun c_10 => ?_) (fun c_10 => ?_)
      · refine r_iconst C 49 (nI 0) (by decide) dX6_readInner_48 rfl ?_
        exact r_zret C Rr (by decide) dX6_readInner_49 (fun _ => rfl) rfl
      · refine r_iconst C 45 (nI 1) (by decide) dX6_readInner_44 rfl ?_
        refine r_goto C 49 dX6_readInner_45 (by decide) ?_
        exact r_zret C Rr (by decide) dX6_readInner_49 (fun _ => rfl) rfl
set_option maxHeartbeats 4000000 in
set_option maxRecDepth 100000 in
theorem imp_b_X6_readUnit (g : Nat → Int32 → CH → Option (Int32 × CH)) {d : Nat} (hd0 : 3 ≤ d) (hG : G8 g d) {κ : Kx (Int32 × CH)} (C : Cx κ cX6_readUnit RX6 2 (d + 1) (40 * (d + 1)) [194]) (x1 : Int32)  (h : CH) (Rr : Rt κ (some .boolean) (fun (q : Int32 × CH) (_ : Nat → Nat) => some (Value.int q.1)) (fun (q : (Int32 × CH)) => q.2)) : Imp κ 0 [(0, .ref (kad κ 194)), (1, .int (x1))] [] h (b_X6_readUnit g x1 h) := by
  unfold b_X6_readUnit
  refine r_aload_n C 1 0 rfl dX6_readUnit_0 rfl ?_
  refine r_getR C 4 dX6_readUnit_1 flX6_19 kt_194 rfl rf_194_1 rfl ?_
  refine r_getI C 7 dX6_readUnit_4 flX6_111 kt_63 rfl rfl ?_
  refine r_bipush C 9 (nI 40) (by decide) dX6_readUnit_7 rfl ?_
  refine r_icmp_lt C 12 21 dX6_readUnit_9 (by decide) rfl (fun c_1 => ?_) (fun c_1 => ?_)
  · refine r_aload_n C 22 0 rfl dX6_readUnit_21 rfl ?_
    refine r_getR C 25 dX6_readUnit_22 flX6_19 kt_194 rfl rf_194_1 rfl ?_
    refine r_dup C 26 rfl dX6_readUnit_25 rfl ?_
    refine r_getI C 29 dX6_readUnit_26 flX6_111 kt_63 rfl rfl ?_
    refine r_iconst C 30 (nI 1) (by decide) dX6_readUnit_29 rfl ?_
    refine r_iadd C 31 dX6_readUnit_30 rfl ?_
    refine r_putI C 34 dX6_readUnit_31 flX6_111 kt_63 rfl rfl (fun h_2 => ?_)
    refine r_aload_n C 35 0 rfl dX6_readUnit_34 rfl ?_
    refine r_getR C 38 dX6_readUnit_35 flX6_15 kt_194 rfl rf_194_0 rfl ?_
    refine r_getI C 41 dX6_readUnit_38 flX6_32 kt_2 rfl rfl ?_
    refine imp_ite (fun g_3 => ?_) (fun g_3 => ?_)
    · refine r_lookup C 82 dX6_readUnit_41 rfl (by rw [g_3]) (by decide) ?_
      refine r_aload_n C 83 0 rfl dX6_readUnit_82 rfl ?_
      refine r_cViI C 86 [] (ok_f_X6_readAt h_2) dX6_readUnit_83 lvX6_117 kt_194 rfl rfl rfl (by omega) (by omega) rfl rfl (Nat.le_of_ble_eq_true rfl) rfl rfl (fun v_4 h_5 => ?_)
      exact r_zretg C Rr dX6_readUnit_86 (fun _ => rfl) rfl
    · refine imp_ite (fun g_6 => ?_) (fun g_6 => ?_)
      · refine r_lookup C 87 dX6_readUnit_41 rfl (by rw [g_6]) (by decide) ?_
        refine r_aload_n C 88 0 rfl dX6_readUnit_87 rfl ?_
        refine r_getR C 91 dX6_readUnit_88 flX6_19 kt_194 rfl rf_194_1 rfl ?_
        refine r_iconst C 92 (nI 0) (by decide) dX6_readUnit_91 rfl ?_
        refine r_aload_n C 93 0 rfl dX6_readUnit_92 rfl ?_
        refine r_getR C 96 dX6_readUnit_93 flX6_15 kt_194 rfl rf_194_0 rfl ?_
        refine r_getI C 99 dX6_readUnit_96 flX6_120 kt_2 rfl rfl ?_
        refine r_cViV C 102 [] (ok_f_X5_put_63 ((nI 0)) (h_2.1 2 11) h_2) dX6_readUnit_99 lvX6_89 kt_63 rfl rfl rfl (by omega) (by omega) rfl rfl (Nat.le_of_ble_eq_true rfl) rfl rfl (fun _ h_7 => ?_)
        refine r_aload_n C 103 0 rfl dX6_readUnit_102 rfl ?_
        refine r_getR C 106 dX6_readUnit_103 flX6_15 kt_194 rfl rf_194_0 rfl ?_
        refine r_cViV C 109 [] (ok_f_X8_step h_7) dX6_readUnit_106 lvX6_54 kt_2 rfl rfl rfl (by omega) (by omega) rfl rfl (Nat.le_of_ble_eq_true rfl) rfl rfl (fun _ h_8 => ?_)
        refine r_iconst C 110 (nI 1) (by decide) dX6_readUnit_109 rfl ?_
        exact r_zret C Rr (by decide) dX6_readUnit_110 (fun _ => rfl) rfl
      · refine imp_ite (fun g_9 => ?_) (fun g_9 => ?_)
        · refine r_lookup C 76 dX6_readUnit_41 rfl (by rw [g_9]) (by decide) ?_
          refine r_aload_n C 77 0 rfl dX6_readUnit_76 rfl ?_
          refine r_iload_n C 78 1 rfl dX6_readUnit_77 rfl ?_
          refine r_cViI C 81 [] (hG.2.2.2.2.2.2.2 x1 h_2) dX6_readUnit_78 lvX6_114 kt_194 rfl rfl rfl (Nat.le_refl _) (by omega) rfl rfl (Nat.le_of_ble_eq_true rfl) rfl rfl (fun v_10 h_11 => ?_)
          exact r_zretg C Rr dX6_readUnit_81 (fun _ => rfl) rfl
        · refine r_lookup C 111 dX6_readUnit_41 rfl (lk_none (by intro q hq e; simp only [List.mem_cons, List.not_mem_nil, or_false] at hq; rcases hq with rfl | rfl | rfl; (exact g_3 (i32_of e (by decide))); (exact g_6 (i32_of e (by decide))); (exact g_9 (i32_of e (by decide))))) (by decide) ?_
          refine r_aload_n C 112 0 rfl dX6_readUnit_111 rfl ?_
          refine r_aload_n C 113 0 rfl dX6_readUnit_112 rfl ?_
          refine r_getI C 116 dX6_readUnit_113 flX6_9 kt_194 rfl rfl ?_
          refine imp_jn (fun (j_13 : Int32 → Option (Int32 × CH)) => ∀ (s_12 : Int32), Imp κ 130 [] [.int (s_12), .ref (kad κ 194)] h_2 (j_13 s_12)) ?_ ?_
          · intro s_12
            refine r_cViI C 133 [] (ok_f_X6_readValue s_12 h_2) dX6_readUnit_130 lvX6_129 kt_194 rfl rfl rfl (by omega) (by omega) rfl rfl (Nat.le_of_ble_eq_true rfl) rfl rfl (fun v_14 h_15 => ?_)
            exact r_zretg C Rr dX6_readUnit_133 (fun _ => rfl) rfl
          · intro j_13 hj_13
            refine r_if_eq C 119 126 dX6_readUnit_116 (by decide) rfl (fun c_16 => ?_) (fun c_16 => ?_)
            · refine r_aload_n C 127 0 rfl dX6_readUnit_126 rfl ?_
              refine r_cVpI C 130 [.ref (kad κ 194)] (ok_f_X6_signValueHere h_2) dX6_readUnit_127 lvX6_126 kt_194 rfl rfl rfl (by omega) (by omega) rfl rfl (Nat.le_of_ble_eq_true rfl) rfl rfl (fun v_17 => ?_)
              exact imp_sub [] [] rfl (hj_13 (v_17))
            · refine r_aload_n C 120 0 rfl dX6_readUnit_119 rfl ?_
              refine r_cVpI C 123 [.ref (kad κ 194)] (ok_f_X6_barValueHere h_2) dX6_readUnit_120 lvX6_123 kt_194 rfl rfl rfl (by omega) (by omega) rfl rfl (Nat.le_of_ble_eq_true rfl) rfl rfl (fun v_18 => ?_)
              refine r_goto C 130 dX6_readUnit_123 (by decide) ?_
              exact imp_sub [] [] rfl (hj_13 (v_18))
  · refine r_aload_n C 13 0 rfl dX6_readUnit_12 rfl ?_
    refine r_getR C 16 dX6_readUnit_13 flX6_15 kt_194 rfl rf_194_0 rfl ?_
    refine r_iconst C 17 (nI 2) (by decide) dX6_readUnit_16 rfl ?_
    refine r_cViI C 20 [] (ok_f_X8_refuse ((nI 2)) h) dX6_readUnit_17 lvX6_47 kt_2 rfl rfl rfl (by omega) (by omega) rfl rfl (Nat.le_of_ble_eq_true rfl) rfl rfl (fun v_19 h_20 => ?_)
    exact r_zretg C Rr dX6_readUnit_20 (fun _ => rfl) rfl
set_option maxHeartbeats 4000000 in
set_option maxRecDepth 100000 in
theorem imp_b_X6_readTerm_L12 (g : Nat → Int32 → CH → Option (Int32 × CH)) {d : Nat} (hd0 : 3 ≤ d) (hG : G8 g d) {κ : Kx (Int32 × CH)} (C : Cx κ cX6_readTerm RX6 3 (d + 1) (40 * (d + 1)) [194]) (x1 : Int32)    (Rr : Rt κ (some .boolean) (fun (q : Int32 × CH) (_ : Nat → Nat) => some (Value.int q.1)) (fun (q : (Int32 × CH)) => q.2)) : ∀ (n : Nat) (x2 : Int32) (h : CH), Imp κ 12 [(0, .ref (kad κ 194)), (1, .int (x1)), (2, .int (x2))] [] h (b_X6_readTerm_L12 g x1 n x2 h) := by
  intro n
  induction n with
  | zero => intros; exact imp_none
  | succ n ih =>
    intro x2 h
    rw [b_X6_readTerm_L12]
    refine r_iload_n C 13 2 rfl dX6_readTerm_12 rfl ?_
    refine r_bipush C 15 (nI 40) (by decide) dX6_readTerm_13 rfl ?_
    refine r_icmp_ge C 18 62 dX6_readTerm_15 (by decide) rfl (fun c_4 => ?_) (fun c_4 => ?_)
    · refine r_aload_n C 19 0 rfl dX6_readTerm_18 rfl ?_
      refine r_getR C 22 dX6_readTerm_19 flX6_15 kt_194 rfl rf_194_0 rfl ?_
      refine r_getI C 25 dX6_readTerm_22 flX6_32 kt_2 rfl rfl ?_
      refine r_bipush C 27 (nI 42) (by decide) dX6_readTerm_25 rfl ?_
      refine r_icmp_ne C 30 62 dX6_readTerm_27 (by decide) rfl (fun c_5 => ?_) (fun c_5 => ?_)
      · refine r_aload_n C 31 0 rfl dX6_readTerm_30 rfl ?_
        refine r_getR C 34 dX6_readTerm_31 flX6_15 kt_194 rfl rf_194_0 rfl ?_
        refine r_cViV C 37 [] (ok_f_X8_step h) dX6_readTerm_34 lvX6_54 kt_2 rfl rfl rfl (by omega) (by omega) rfl rfl (Nat.le_of_ble_eq_true rfl) rfl rfl (fun _ h_6 => ?_)
        refine r_aload_n C 38 0 rfl dX6_readTerm_37 rfl ?_
        refine r_iload_n C 39 1 rfl dX6_readTerm_38 rfl ?_
        refine r_cViI C 42 [] (hG.2.2.2.2.2.2.1 x1 h_6) dX6_readTerm_39 lvX6_108 kt_194 rfl rfl rfl (Nat.le_refl _) (by omega) rfl rfl (Nat.le_of_ble_eq_true rfl) rfl rfl (fun v_7 h_8 => ?_)
        refine r_if_ne C 45 47 dX6_readTerm_42 (by decide) rfl (fun c_9 => ?_) (fun c_9 => ?_)
        · refine r_iconst C 46 (nI 0) (by decide) dX6_readTerm_45 rfl ?_
          exact r_zret C Rr (by decide) dX6_readTerm_46 (fun _ => rfl) rfl
        · refine r_aload_n C 48 0 rfl dX6_readTerm_47 rfl ?_
          refine r_getR C 51 dX6_readTerm_48 flX6_19 kt_194 rfl rf_194_1 rfl ?_
          refine r_iconst C 52 (nI 3) (by decide) dX6_readTerm_51 rfl ?_
          refine r_iconst C 53 (nI 0) (by decide) dX6_readTerm_52 rfl ?_
          refine r_cViV C 56 [] (ok_f_X5_put_63 ((nI 3)) ((nI 0)) h_8) dX6_readTerm_53 lvX6_89 kt_63 rfl rfl rfl (by omega) (by omega) rfl rfl (Nat.le_of_ble_eq_true rfl) rfl rfl (fun _ h_10 => ?_)
          refine r_iinc C 59 2 (nI 1) [(2, .int (x2 + (nI 1))), (0, .ref (kad κ 194)), (1, .int (x1))] dX6_readTerm_56 rfl (by decide) (by decide) rfl rfl ?_
          refine r_goto C 12 dX6_readTerm_59 (by decide) ?_
          exact imp_sub [(0, .ref (kad κ 194)), (1, .int (x1)), (2, .int (x2 + (nI 1)))] [1, 2, 0] rfl (ih (x2 + (nI 1)) h_10)
      · refine r_iconst C 63 (nI 1) (by decide) dX6_readTerm_62 rfl ?_
        exact r_zret C Rr (by decide) dX6_readTerm_63 (fun _ => rfl) rfl
    · refine r_iconst C 63 (nI 1) (by decide) dX6_readTerm_62 rfl ?_
      exact r_zret C Rr (by decide) dX6_readTerm_63 (fun _ => rfl) rfl
set_option maxHeartbeats 4000000 in
set_option maxRecDepth 100000 in
theorem imp_b_X6_readTerm (g : Nat → Int32 → CH → Option (Int32 × CH)) {d : Nat} (hd0 : 3 ≤ d) (hG : G8 g d) {κ : Kx (Int32 × CH)} (C : Cx κ cX6_readTerm RX6 3 (d + 1) (40 * (d + 1)) [194]) (x1 : Int32)  (h : CH) (Rr : Rt κ (some .boolean) (fun (q : Int32 × CH) (_ : Nat → Nat) => some (Value.int q.1)) (fun (q : (Int32 × CH)) => q.2)) : Imp κ 0 [(0, .ref (kad κ 194)), (1, .int (x1))] [] h (b_X6_readTerm g x1 h) := by
  unfold b_X6_readTerm
  refine r_aload_n C 1 0 rfl dX6_readTerm_0 rfl ?_
  refine r_iload_n C 2 1 rfl dX6_readTerm_1 rfl ?_
  refine r_cViI C 5 [] (hG.2.2.2.2.2.2.1 x1 h) dX6_readTerm_2 lvX6_108 kt_194 rfl rfl rfl (Nat.le_refl _) (by omega) rfl rfl (Nat.le_of_ble_eq_true rfl) rfl rfl (fun v_1 h_2 => ?_)
  refine r_if_ne C 8 10 dX6_readTerm_5 (by decide) rfl (fun c_3 => ?_) (fun c_3 => ?_)
  · refine r_iconst C 9 (nI 0) (by decide) dX6_readTerm_8 rfl ?_
    exact r_zret C Rr (by decide) dX6_readTerm_9 (fun _ => rfl) rfl
  · refine r_iconst C 11 (nI 0) (by decide) dX6_readTerm_10 rfl ?_
    refine r_istore_n C 12 2 [(2, .int ((nI 0))), (0, .ref (kad κ 194)), (1, .int (x1))] dX6_readTerm_11 rfl (by decide) rfl rfl ?_
    refine imp_sub [(0, .ref (kad κ 194)), (1, .int (x1)), (2, .int ((nI 0)))] [1, 2, 0] rfl ?_
    refine imp_b_X6_readTerm_L12 g hd0 hG C (x1) Rr FU ((nI 0)) h_2
set_option maxHeartbeats 4000000 in
set_option maxRecDepth 100000 in
theorem imp_b_X6_readSum_L12 (g : Nat → Int32 → CH → Option (Int32 × CH)) {d : Nat} (hd0 : 3 ≤ d) (hG : G8 g d) {κ : Kx (Int32 × CH)} (C : Cx κ cX6_readSum RX6 4 (d + 1) (40 * (d + 1)) [194]) (x1 : Int32)    (Rr : Rt κ (some .boolean) (fun (q : Int32 × CH) (_ : Nat → Nat) => some (Value.int q.1)) (fun (q : (Int32 × CH)) => q.2)) : ∀ (n : Nat) (x2 : Int32) (h : CH), Imp κ 12 [(0, .ref (kad κ 194)), (1, .int (x1)), (2, .int (x2))] [] h (b_X6_readSum_L12 g x1 n x2 h) := by
  intro n
  induction n with
  | zero => intros; exact imp_none
  | succ n ih =>
    intro x2 h
    rw [b_X6_readSum_L12]
    refine r_iload_n C 13 2 rfl dX6_readSum_12 rfl ?_
    refine r_bipush C 15 (nI 40) (by decide) dX6_readSum_13 rfl ?_
    refine r_icmp_ge C 18 92 dX6_readSum_15 (by decide) rfl (fun c_4 => ?_) (fun c_4 => ?_)
    · refine r_aload_n C 19 0 rfl dX6_readSum_18 rfl ?_
      refine r_getR C 22 dX6_readSum_19 flX6_15 kt_194 rfl rf_194_0 rfl ?_
      refine r_getI C 25 dX6_readSum_22 flX6_32 kt_2 rfl rfl ?_
      refine r_bipush C 27 (nI 43) (by decide) dX6_readSum_25 rfl ?_
      refine imp_jn (fun (j_5 : Option (Int32 × CH)) =>  Imp κ 42 [(0, .ref (kad κ 194)), (1, .int (x1)), (2, .int (x2))] [] h (j_5)) ?_ ?_
      · refine r_aload_n C 43 0 rfl dX6_readSum_42 rfl ?_
        refine r_getR C 46 dX6_readSum_43 flX6_15 kt_194 rfl rf_194_0 rfl ?_
        refine r_getI C 49 dX6_readSum_46 flX6_32 kt_2 rfl rfl ?_
        refine r_bipush C 51 (nI 43) (by decide) dX6_readSum_49 rfl ?_
        refine imp_jn (fun (j_7 : Int32 → Option (Int32 × CH)) => ∀ (s_6 : Int32), Imp κ 59 [(0, .ref (kad κ 194)), (1, .int (x1)), (2, .int (x2))] [.int (s_6)] h (j_7 s_6)) ?_ ?_
        · intro s_6
          refine r_istore_n C 60 3 [(3, .int (s_6)), (0, .ref (kad κ 194)), (1, .int (x1)), (2, .int (x2))] dX6_readSum_59 rfl (by decide) rfl rfl ?_
          refine r_aload_n C 61 1 rfl dX6_readSum_60 rfl ?_
          refine r_getR C 64 dX6_readSum_61 flX6_15 kt_194 rfl rf_194_0 rfl ?_
          refine r_cViV C 67 [] (ok_f_X8_step h) dX6_readSum_64 lvX6_54 kt_2 rfl rfl rfl (by omega) (by omega) rfl rfl (Nat.le_of_ble_eq_true rfl) rfl rfl (fun _ h_8 => ?_)
          refine r_aload_n C 68 1 rfl dX6_readSum_67 rfl ?_
          refine r_iload_n C 69 2 rfl dX6_readSum_68 rfl ?_
          refine r_cViI C 72 [] (hG.2.2.2.2.2.1 x1 h_8) dX6_readSum_69 lvX6_105 kt_194 rfl rfl rfl (Nat.le_refl _) (by omega) rfl rfl (Nat.le_of_ble_eq_true rfl) rfl rfl (fun v_9 h_10 => ?_)
          refine r_if_ne C 75 77 dX6_readSum_72 (by decide) rfl (fun c_11 => ?_) (fun c_11 => ?_)
          · refine r_iconst C 76 (nI 0) (by decide) dX6_readSum_75 rfl ?_
            exact r_zret C Rr (by decide) dX6_readSum_76 (fun _ => rfl) rfl
          · refine r_aload_n C 78 1 rfl dX6_readSum_77 rfl ?_
            refine r_getR C 81 dX6_readSum_78 flX6_19 kt_194 rfl rf_194_1 rfl ?_
            refine r_iload_n C 82 0 rfl dX6_readSum_81 rfl ?_
            refine r_iconst C 83 (nI 0) (by decide) dX6_readSum_82 rfl ?_
            refine r_cViV C 86 [] (ok_f_X5_put_63 s_6 ((nI 0)) h_10) dX6_readSum_83 lvX6_89 kt_63 rfl rfl rfl (by omega) (by omega) rfl rfl (Nat.le_of_ble_eq_true rfl) rfl rfl (fun _ h_12 => ?_)
            refine r_iinc C 89 3 (nI 1) [(2, .int (x2 + (nI 1))), (3, .int (s_6)), (0, .ref (kad κ 194)), (1, .int (x1))] dX6_readSum_86 rfl (by decide) (by decide) rfl rfl ?_
            refine r_goto C 12 dX6_readSum_89 (by decide) ?_
            exact imp_sub [(0, .ref (kad κ 194)), (1, .int (x1)), (2, .int (x2 + (nI 1)))] [2, 3, 0] rfl (ih (x2 + (nI 1)) h_12)
        · intro j_7 hj_7
          refine r_icmp_ne C 54 58 dX6_readSum_51 (by decide) rfl (fun c_13 => ?_) (fun c_13 => ?_)
          · refine r_iconst C 55 (nI 4) (by decide) dX6_readSum_54 rfl ?_
            refine r_goto C 59 dX6_readSum_55 (by decide) ?_
            exact imp_sub [(0, .ref (kad κ 194)), (1, .int (x1)), (2, .int (x2))] [0, 1, 2] rfl (hj_7 ((nI 4)))
          · refine r_iconst C 59 (nI 5) (by decide) dX6_readSum_58 rfl ?_
            exact imp_sub [(0, .ref (kad κ 194)), (1, .int (x1)), (2, .int (x2))] [0, 1, 2] rfl (hj_7 ((nI 5)))
      · intro j_5 hj_5
        refine r_icmp_eq C 30 42 dX6_readSum_27 (by decide) rfl (fun c_14 => ?_) (fun c_14 => ?_)
        · exact imp_sub [(0, .ref (kad κ 194)), (1, .int (x1)), (2, .int (x2))] [0, 1, 2] rfl (hj_5)
        · refine r_aload_n C 31 0 rfl dX6_readSum_30 rfl ?_
          refine r_getR C 34 dX6_readSum_31 flX6_15 kt_194 rfl rf_194_0 rfl ?_
          refine r_getI C 37 dX6_readSum_34 flX6_32 kt_2 rfl rfl ?_
          refine r_bipush C 39 (nI 45) (by decide) dX6_readSum_37 rfl ?_
          refine r_icmp_ne C 42 92 dX6_readSum_39 (by decide) rfl (fun c_15 => ?_) (fun c_15 => ?_)
          · exact imp_sub [(0, .ref (kad κ 194)), (1, .int (x1)), (2, .int (x2))] [0, 1, 2] rfl (hj_5)
          · refine r_iconst C 93 (nI 1) (by decide) dX6_readSum_92 rfl ?_
            exact r_zret C Rr (by decide) dX6_readSum_93 (fun _ => rfl) rfl
    · refine r_iconst C 93 (nI 1) (by decide) dX6_readSum_92 rfl ?_
      exact r_zret C Rr (by decide) dX6_readSum_93 (fun _ => rfl) rfl
set_option maxHeartbeats 4000000 in
set_option maxRecDepth 100000 in
theorem imp_b_X6_readSum (g : Nat → Int32 → CH → Option (Int32 × CH)) {d : Nat} (hd0 : 3 ≤ d) (hG : G8 g d) {κ : Kx (Int32 × CH)} (C : Cx κ cX6_readSum RX6 4 (d + 1) (40 * (d + 1)) [194]) (x1 : Int32)  (h : CH) (Rr : Rt κ (some .boolean) (fun (q : Int32 × CH) (_ : Nat → Nat) => some (Value.int q.1)) (fun (q : (Int32 × CH)) => q.2)) : Imp κ 0 [(0, .ref (kad κ 194)), (1, .int (x1))] [] h (b_X6_readSum g x1 h) := by
  unfold b_X6_readSum
  refine r_aload_n C 1 0 rfl dX6_readSum_0 rfl ?_
  refine r_iload_n C 2 1 rfl dX6_readSum_1 rfl ?_
  refine r_cViI C 5 [] (hG.2.2.2.2.2.1 x1 h) dX6_readSum_2 lvX6_105 kt_194 rfl rfl rfl (Nat.le_refl _) (by omega) rfl rfl (Nat.le_of_ble_eq_true rfl) rfl rfl (fun v_1 h_2 => ?_)
  refine r_if_ne C 8 10 dX6_readSum_5 (by decide) rfl (fun c_3 => ?_) (fun c_3 => ?_)
  · refine r_iconst C 9 (nI 0) (by decide) dX6_readSum_8 rfl ?_
    exact r_zret C Rr (by decide) dX6_readSum_9 (fun _ => rfl) rfl
  · refine r_iconst C 11 (nI 0) (by decide) dX6_readSum_10 rfl ?_
    refine r_istore_n C 12 2 [(2, .int ((nI 0))), (0, .ref (kad κ 194)), (1, .int (x1))] dX6_readSum_11 rfl (by decide) rfl rfl ?_
    refine imp_sub [(0, .ref (kad κ 194)), (1, .int (x1)), (2, .int ((nI 0)))] [1, 2, 0] rfl ?_
    refine imp_b_X6_readSum_L12 g hd0 hG C (x1) Rr FU ((nI 0)) h_2
set_option maxHeartbeats 4000000 in
set_option maxRecDepth 100000 in
theorem imp_b_X6_readRelation (g : Nat → Int32 → CH → Option (Int32 × CH)) {d : Nat} (hd0 : 3 ≤ d) (hG : G8 g d) {κ : Kx (Int32 × CH)} (C : Cx κ cX6_readRelation RX6 3 (d + 1) (40 * (d + 1)) [194]) (x1 : Int32)  (h : CH) (Rr : Rt κ (some .boolean) (fun (q : Int32 × CH) (_ : Nat → Nat) => some (Value.int q.1)) (fun (q : (Int32 × CH)) => q.2)) : Imp κ 0 [(0, .ref (kad κ 194)), (1, .int (x1))] [] h (b_X6_readRelation g x1 h) := by
  unfold b_X6_readRelation
  refine r_aload_n C 1 0 rfl dX6_readRelation_0 rfl ?_
  refine r_iload_n C 2 1 rfl dX6_readRelation_1 rfl ?_
  refine r_cViI C 5 [] (hG.2.2.2.2.1 x1 h) dX6_readRelation_2 lvX6_99 kt_194 rfl rfl rfl (Nat.le_refl _) (by omega) rfl rfl (Nat.le_of_ble_eq_true rfl) rfl rfl (fun v_1 h_2 => ?_)
  refine r_if_ne C 8 10 dX6_readRelation_5 (by decide) rfl (fun c_3 => ?_) (fun c_3 => ?_)
  · refine r_iconst C 9 (nI 0) (by decide) dX6_readRelation_8 rfl ?_
    exact r_zret C Rr (by decide) dX6_readRelation_9 (fun _ => rfl) rfl
  · refine r_aload_n C 11 0 rfl dX6_readRelation_10 rfl ?_
    refine r_cVpI C 14 [] (ok_f_X6_relationHere h_2) dX6_readRelation_11 lvX6_102 kt_194 rfl rfl rfl (by omega) (by omega) rfl rfl (Nat.le_of_ble_eq_true rfl) rfl rfl (fun v_4 => ?_)
    refine r_istore_n C 15 2 [(2, .int (v_4)), (0, .ref (kad κ 194)), (1, .int (x1))] dX6_readRelation_14 rfl (by decide) rfl rfl ?_
    refine r_iload_n C 16 0 rfl dX6_readRelation_15 rfl ?_
    refine r_iconst C 17 (-1) (by decide) dX6_readRelation_16 rfl ?_
    refine r_icmp_ne C 20 22 dX6_readRelation_17 (by decide) rfl (fun c_5 => ?_) (fun c_5 => ?_)
    · refine r_iconst C 21 (nI 1) (by decide) dX6_readRelation_20 rfl ?_
      exact r_zret C Rr (by decide) dX6_readRelation_21 (fun _ => rfl) rfl
    · refine r_aload_n C 23 1 rfl dX6_readRelation_22 rfl ?_
      refine r_getR C 26 dX6_readRelation_23 flX6_15 kt_194 rfl rf_194_0 rfl ?_
      refine r_cViV C 29 [] (ok_f_X8_step h_2) dX6_readRelation_26 lvX6_54 kt_2 rfl rfl rfl (by omega) (by omega) rfl rfl (Nat.le_of_ble_eq_true rfl) rfl rfl (fun _ h_6 => ?_)
      refine r_aload_n C 30 1 rfl dX6_readRelation_29 rfl ?_
      refine r_iload_n C 31 2 rfl dX6_readRelation_30 rfl ?_
      refine r_cViI C 34 [] (hG.2.2.2.2.1 x1 h_6) dX6_readRelation_31 lvX6_99 kt_194 rfl rfl rfl (Nat.le_refl _) (by omega) rfl rfl (Nat.le_of_ble_eq_true rfl) rfl rfl (fun v_7 h_8 => ?_)
      refine r_if_ne C 37 39 dX6_readRelation_34 (by decide) rfl (fun c_9 => ?_) (fun c_9 => ?_)
      · refine r_iconst C 38 (nI 0) (by decide) dX6_readRelation_37 rfl ?_
        exact r_zret C Rr (by decide) dX6_readRelation_38 (fun _ => rfl) rfl
      · refine r_aload_n C 40 1 rfl dX6_readRelation_39 rfl ?_
        refine r_getR C 43 dX6_readRelation_40 flX6_19 kt_194 rfl rf_194_1 rfl ?_
        refine r_iload_n C 44 0 rfl dX6_readRelation_43 rfl ?_
        refine r_iconst C 45 (nI 0) (by decide) dX6_readRelation_44 rfl ?_
        refine r_cViV C 48 [] (ok_f_X5_put_63 v_4 ((nI 0)) h_8) dX6_readRelation_45 lvX6_89 kt_63 rfl rfl rfl (by omega) (by omega) rfl rfl (Nat.le_of_ble_eq_true rfl) rfl rfl (fun _ h_10 => ?_)
        refine r_iconst C 49 (nI 1) (by decide) dX6_readRelation_48 rfl ?_
        exact r_zret C Rr (by decide) dX6_readRelation_49 (fun _ => rfl) rfl
set_option maxHeartbeats 4000000 in
set_option maxRecDepth 100000 in
theorem imp_b_X6_readOne (g : Nat → Int32 → CH → Option (Int32 × CH)) {d : Nat} (hd0 : 3 ≤ d) (hG : G8 g d) {κ : Kx (Int32 × CH)} (C : Cx κ cX6_readOne RX6 2 (d + 1) (40 * (d + 1)) [194]) (x1 : Int32)  (h : CH) (Rr : Rt κ (some .boolean) (fun (q : Int32 × CH) (_ : Nat → Nat) => some (Value.int q.1)) (fun (q : (Int32 × CH)) => q.2)) : Imp κ 0 [(0, .ref (kad κ 194)), (1, .int (x1))] [] h (b_X6_readOne g x1 h) := by
  unfold b_X6_readOne
  refine r_aload_n C 1 0 rfl dX6_readOne_0 rfl ?_
  refine r_getR C 4 dX6_readOne_1 flX6_15 kt_194 rfl rf_194_0 rfl ?_
  refine r_getI C 7 dX6_readOne_4 flX6_32 kt_2 rfl rfl ?_
  refine r_bipush C 9 (nI 23) (by decide) dX6_readOne_7 rfl ?_
  refine r_icmp_eq C 12 18 dX6_readOne_9 (by decide) rfl (fun c_1 => ?_) (fun c_1 => ?_)
  · refine r_iload_n C 19 1 rfl dX6_readOne_18 rfl ?_
    refine r_bipush C 21 (nI 6) (by decide) dX6_readOne_19 rfl ?_
    refine r_icmp_le C 24 33 dX6_readOne_21 (by decide) rfl (fun c_2 => ?_) (fun c_2 => ?_)
    · refine r_aload_n C 25 0 rfl dX6_readOne_24 rfl ?_
      refine r_getR C 28 dX6_readOne_25 flX6_15 kt_194 rfl rf_194_0 rfl ?_
      refine r_iconst C 29 (nI 2) (by decide) dX6_readOne_28 rfl ?_
      refine r_cViI C 32 [] (ok_f_X8_refuse ((nI 2)) h) dX6_readOne_29 lvX6_47 kt_2 rfl rfl rfl (by omega) (by omega) rfl rfl (Nat.le_of_ble_eq_true rfl) rfl rfl (fun v_3 h_4 => ?_)
      exact r_zretg C Rr dX6_readOne_32 (fun _ => rfl) rfl
    · refine r_aload_n C 34 0 rfl dX6_readOne_33 rfl ?_
      refine r_getR C 37 dX6_readOne_34 flX6_15 kt_194 rfl rf_194_0 rfl ?_
      refine r_cViV C 40 [] (ok_f_X8_step h) dX6_readOne_37 lvX6_54 kt_2 rfl rfl rfl (by omega) (by omega) rfl rfl (Nat.le_of_ble_eq_true rfl) rfl rfl (fun _ h_5 => ?_)
      refine r_aload_n C 41 0 rfl dX6_readOne_40 rfl ?_
      refine r_iload_n C 42 1 rfl dX6_readOne_41 rfl ?_
      refine r_iconst C 43 (nI 1) (by decide) dX6_readOne_42 rfl ?_
      refine r_iadd C 44 dX6_readOne_43 rfl ?_
      refine r_cViI C 47 [] (hG.2.2.1 ((x1) + ((nI 1))) h_5) dX6_readOne_44 lvX6_93 kt_194 rfl rfl rfl (Nat.le_refl _) (by omega) rfl rfl (Nat.le_of_ble_eq_true rfl) rfl rfl (fun v_6 h_7 => ?_)
      refine r_if_ne C 50 52 dX6_readOne_47 (by decide) rfl (fun c_8 => ?_) (fun c_8 => ?_)
      · refine r_iconst C 51 (nI 0) (by decide) dX6_readOne_50 rfl ?_
        exact r_zret C Rr (by decide) dX6_readOne_51 (fun _ => rfl) rfl
      · refine r_aload_n C 53 0 rfl dX6_readOne_52 rfl ?_
        refine r_getR C 56 dX6_readOne_53 flX6_19 kt_194 rfl rf_194_1 rfl ?_
        refine r_iconst C 57 (nI 2) (by decide) dX6_readOne_56 rfl ?_
        refine r_iconst C 58 (nI 0) (by decide) dX6_readOne_57 rfl ?_
        refine r_cViV C 61 [] (ok_f_X5_put_63 ((nI 2)) ((nI 0)) h_7) dX6_readOne_58 lvX6_89 kt_63 rfl rfl rfl (by omega) (by omega) rfl rfl (Nat.le_of_ble_eq_true rfl) rfl rfl (fun _ h_9 => ?_)
        refine r_iconst C 62 (nI 1) (by decide) dX6_readOne_61 rfl ?_
        exact r_zret C Rr (by decide) dX6_readOne_62 (fun _ => rfl) rfl
  · refine r_aload_n C 13 0 rfl dX6_readOne_12 rfl ?_
    refine r_iload_n C 14 1 rfl dX6_readOne_13 rfl ?_
    refine r_cViI C 17 [] (hG.2.2.2.1 x1 h) dX6_readOne_14 lvX6_96 kt_194 rfl rfl rfl (Nat.le_refl _) (by omega) rfl rfl (Nat.le_of_ble_eq_true rfl) rfl rfl (fun v_10 h_11 => ?_)
    exact r_zretg C Rr dX6_readOne_17 (fun _ => rfl) rfl
set_option maxHeartbeats 4000000 in
set_option maxRecDepth 100000 in
theorem imp_b_X6_readBoth_L12 (g : Nat → Int32 → CH → Option (Int32 × CH)) {d : Nat} (hd0 : 3 ≤ d) (hG : G8 g d) {κ : Kx (Int32 × CH)} (C : Cx κ cX6_readBoth RX6 3 (d + 1) (40 * (d + 1)) [194]) (x1 : Int32)    (Rr : Rt κ (some .boolean) (fun (q : Int32 × CH) (_ : Nat → Nat) => some (Value.int q.1)) (fun (q : (Int32 × CH)) => q.2)) : ∀ (n : Nat) (x2 : Int32) (h : CH), Imp κ 12 [(0, .ref (kad κ 194)), (1, .int (x1)), (2, .int (x2))] [] h (b_X6_readBoth_L12 g x1 n x2 h) := by
  intro n
  induction n with
  | zero => intros; exact imp_none
  | succ n ih =>
    intro x2 h
    rw [b_X6_readBoth_L12]
    refine r_iload_n C 13 2 rfl dX6_readBoth_12 rfl ?_
    refine r_bipush C 15 (nI 40) (by decide) dX6_readBoth_13 rfl ?_
    refine r_icmp_ge C 18 63 dX6_readBoth_15 (by decide) rfl (fun c_4 => ?_) (fun c_4 => ?_)
    · refine r_aload_n C 19 0 rfl dX6_readBoth_18 rfl ?_
      refine r_getR C 22 dX6_readBoth_19 flX6_15 kt_194 rfl rf_194_0 rfl ?_
      refine r_getI C 25 dX6_readBoth_22 flX6_32 kt_2 rfl rfl ?_
      refine r_bipush C 27 (nI 21) (by decide) dX6_readBoth_25 rfl ?_
      refine r_icmp_ne C 30 63 dX6_readBoth_27 (by decide) rfl (fun c_5 => ?_) (fun c_5 => ?_)
      · refine r_aload_n C 31 0 rfl dX6_readBoth_30 rfl ?_
        refine r_getR C 34 dX6_readBoth_31 flX6_15 kt_194 rfl rf_194_0 rfl ?_
        refine r_cViV C 37 [] (ok_f_X8_step h) dX6_readBoth_34 lvX6_54 kt_2 rfl rfl rfl (by omega) (by omega) rfl rfl (Nat.le_of_ble_eq_true rfl) rfl rfl (fun _ h_6 => ?_)
        refine r_aload_n C 38 0 rfl dX6_readBoth_37 rfl ?_
        refine r_iload_n C 39 1 rfl dX6_readBoth_38 rfl ?_
        refine r_cViI C 42 [] (hG.2.2.1 x1 h_6) dX6_readBoth_39 lvX6_93 kt_194 rfl rfl rfl (Nat.le_refl _) (by omega) rfl rfl (Nat.le_of_ble_eq_true rfl) rfl rfl (fun v_7 h_8 => ?_)
        refine r_if_ne C 45 47 dX6_readBoth_42 (by decide) rfl (fun c_9 => ?_) (fun c_9 => ?_)
        · refine r_iconst C 46 (nI 0) (by decide) dX6_readBoth_45 rfl ?_
          exact r_zret C Rr (by decide) dX6_readBoth_46 (fun _ => rfl) rfl
        · refine r_aload_n C 48 0 rfl dX6_readBoth_47 rfl ?_
          refine r_getR C 51 dX6_readBoth_48 flX6_19 kt_194 rfl rf_194_1 rfl ?_
          refine r_bipush C 53 (nI 9) (by decide) dX6_readBoth_51 rfl ?_
          refine r_iconst C 54 (nI 0) (by decide) dX6_readBoth_53 rfl ?_
          refine r_cViV C 57 [] (ok_f_X5_put_63 ((nI 9)) ((nI 0)) h_8) dX6_readBoth_54 lvX6_89 kt_63 rfl rfl rfl (by omega) (by omega) rfl rfl (Nat.le_of_ble_eq_true rfl) rfl rfl (fun _ h_10 => ?_)
          refine r_iinc C 60 2 (nI 1) [(2, .int (x2 + (nI 1))), (0, .ref (kad κ 194)), (1, .int (x1))] dX6_readBoth_57 rfl (by decide) (by decide) rfl rfl ?_
          refine r_goto C 12 dX6_readBoth_60 (by decide) ?_
          exact imp_sub [(0, .ref (kad κ 194)), (1, .int (x1)), (2, .int (x2 + (nI 1)))] [1, 2, 0] rfl (ih (x2 + (nI 1)) h_10)
      · refine r_iconst C 64 (nI 1) (by decide) dX6_readBoth_63 rfl ?_
        exact r_zret C Rr (by decide) dX6_readBoth_64 (fun _ => rfl) rfl
    · refine r_iconst C 64 (nI 1) (by decide) dX6_readBoth_63 rfl ?_
      exact r_zret C Rr (by decide) dX6_readBoth_64 (fun _ => rfl) rfl
set_option maxHeartbeats 4000000 in
set_option maxRecDepth 100000 in
theorem imp_b_X6_readBoth (g : Nat → Int32 → CH → Option (Int32 × CH)) {d : Nat} (hd0 : 3 ≤ d) (hG : G8 g d) {κ : Kx (Int32 × CH)} (C : Cx κ cX6_readBoth RX6 3 (d + 1) (40 * (d + 1)) [194]) (x1 : Int32)  (h : CH) (Rr : Rt κ (some .boolean) (fun (q : Int32 × CH) (_ : Nat → Nat) => some (Value.int q.1)) (fun (q : (Int32 × CH)) => q.2)) : Imp κ 0 [(0, .ref (kad κ 194)), (1, .int (x1))] [] h (b_X6_readBoth g x1 h) := by
  unfold b_X6_readBoth
  refine r_aload_n C 1 0 rfl dX6_readBoth_0 rfl ?_
  refine r_iload_n C 2 1 rfl dX6_readBoth_1 rfl ?_
  refine r_cViI C 5 [] (hG.2.2.1 x1 h) dX6_readBoth_2 lvX6_93 kt_194 rfl rfl rfl (Nat.le_refl _) (by omega) rfl rfl (Nat.le_of_ble_eq_true rfl) rfl rfl (fun v_1 h_2 => ?_)
  refine r_if_ne C 8 10 dX6_readBoth_5 (by decide) rfl (fun c_3 => ?_) (fun c_3 => ?_)
  · refine r_iconst C 9 (nI 0) (by decide) dX6_readBoth_8 rfl ?_
    exact r_zret C Rr (by decide) dX6_readBoth_9 (fun _ => rfl) rfl
  · refine r_iconst C 11 (nI 0) (by decide) dX6_readBoth_10 rfl ?_
    refine r_istore_n C 12 2 [(2, .int ((nI 0))), (0, .ref (kad κ 194)), (1, .int (x1))] dX6_readBoth_11 rfl (by decide) rfl rfl ?_
    refine imp_sub [(0, .ref (kad κ 194)), (1, .int (x1)), (2, .int ((nI 0)))] [1, 2, 0] rfl ?_
    refine imp_b_X6_readBoth_L12 g hd0 hG C (x1) Rr FU ((nI 0)) h_2
set_option maxHeartbeats 4000000 in
set_option maxRecDepth 100000 in
theorem imp_b_X6_readE_L12 (g : Nat → Int32 → CH → Option (Int32 × CH)) {d : Nat} (hd0 : 3 ≤ d) (hG : G8 g d) {κ : Kx (Int32 × CH)} (C : Cx κ cX6_readE RX6 3 (d + 1) (40 * (d + 1)) [194]) (x1 : Int32)    (Rr : Rt κ (some .boolean) (fun (q : Int32 × CH) (_ : Nat → Nat) => some (Value.int q.1)) (fun (q : (Int32 × CH)) => q.2)) : ∀ (n : Nat) (x2 : Int32) (h : CH), Imp κ 12 [(0, .ref (kad κ 194)), (1, .int (x1)), (2, .int (x2))] [] h (b_X6_readE_L12 g x1 n x2 h) := by
  intro n
  induction n with
  | zero => intros; exact imp_none
  | succ n ih =>
    intro x2 h
    rw [b_X6_readE_L12]
    refine r_iload_n C 13 2 rfl dX6_readE_12 rfl ?_
    refine r_bipush C 15 (nI 40) (by decide) dX6_readE_13 rfl ?_
    refine r_icmp_ge C 18 63 dX6_readE_15 (by decide) rfl (fun c_4 => ?_) (fun c_4 => ?_)
    · refine r_aload_n C 19 0 rfl dX6_readE_18 rfl ?_
      refine r_getR C 22 dX6_readE_19 flX6_15 kt_194 rfl rf_194_0 rfl ?_
      refine r_getI C 25 dX6_readE_22 flX6_32 kt_2 rfl rfl ?_
      refine r_bipush C 27 (nI 22) (by decide) dX6_readE_25 rfl ?_
      refine r_icmp_ne C 30 63 dX6_readE_27 (by decide) rfl (fun c_5 => ?_) (fun c_5 => ?_)
      · refine r_aload_n C 31 0 rfl dX6_readE_30 rfl ?_
        refine r_getR C 34 dX6_readE_31 flX6_15 kt_194 rfl rf_194_0 rfl ?_
        refine r_cViV C 37 [] (ok_f_X8_step h) dX6_readE_34 lvX6_54 kt_2 rfl rfl rfl (by omega) (by omega) rfl rfl (Nat.le_of_ble_eq_true rfl) rfl rfl (fun _ h_6 => ?_)
        refine r_aload_n C 38 0 rfl dX6_readE_37 rfl ?_
        refine r_iload_n C 39 1 rfl dX6_readE_38 rfl ?_
        refine r_cViI C 42 [] (hG.2.1 x1 h_6) dX6_readE_39 lvX6_86 kt_194 rfl rfl rfl (Nat.le_refl _) (by omega) rfl rfl (Nat.le_of_ble_eq_true rfl) rfl rfl (fun v_7 h_8 => ?_)
        refine r_if_ne C 45 47 dX6_readE_42 (by decide) rfl (fun c_9 => ?_) (fun c_9 => ?_)
        · refine r_iconst C 46 (nI 0) (by decide) dX6_readE_45 rfl ?_
          exact r_zret C Rr (by decide) dX6_readE_46 (fun _ => rfl) rfl
        · refine r_aload_n C 48 0 rfl dX6_readE_47 rfl ?_
          refine r_getR C 51 dX6_readE_48 flX6_19 kt_194 rfl rf_194_1 rfl ?_
          refine r_bipush C 53 (nI 10) (by decide) dX6_readE_51 rfl ?_
          refine r_iconst C 54 (nI 0) (by decide) dX6_readE_53 rfl ?_
          refine r_cViV C 57 [] (ok_f_X5_put_63 ((nI 10)) ((nI 0)) h_8) dX6_readE_54 lvX6_89 kt_63 rfl rfl rfl (by omega) (by omega) rfl rfl (Nat.le_of_ble_eq_true rfl) rfl rfl (fun _ h_10 => ?_)
          refine r_iinc C 60 2 (nI 1) [(2, .int (x2 + (nI 1))), (0, .ref (kad κ 194)), (1, .int (x1))] dX6_readE_57 rfl (by decide) (by decide) rfl rfl ?_
          refine r_goto C 12 dX6_readE_60 (by decide) ?_
          exact imp_sub [(0, .ref (kad κ 194)), (1, .int (x1)), (2, .int (x2 + (nI 1)))] [1, 2, 0] rfl (ih (x2 + (nI 1)) h_10)
      · refine r_iconst C 64 (nI 1) (by decide) dX6_readE_63 rfl ?_
        exact r_zret C Rr (by decide) dX6_readE_64 (fun _ => rfl) rfl
    · refine r_iconst C 64 (nI 1) (by decide) dX6_readE_63 rfl ?_
      exact r_zret C Rr (by decide) dX6_readE_64 (fun _ => rfl) rfl
set_option maxHeartbeats 4000000 in
set_option maxRecDepth 100000 in
theorem imp_b_X6_readE (g : Nat → Int32 → CH → Option (Int32 × CH)) {d : Nat} (hd0 : 3 ≤ d) (hG : G8 g d) {κ : Kx (Int32 × CH)} (C : Cx κ cX6_readE RX6 3 (d + 1) (40 * (d + 1)) [194]) (x1 : Int32)  (h : CH) (Rr : Rt κ (some .boolean) (fun (q : Int32 × CH) (_ : Nat → Nat) => some (Value.int q.1)) (fun (q : (Int32 × CH)) => q.2)) : Imp κ 0 [(0, .ref (kad κ 194)), (1, .int (x1))] [] h (b_X6_readE g x1 h) := by
  unfold b_X6_readE
  refine r_aload_n C 1 0 rfl dX6_readE_0 rfl ?_
  refine r_iload_n C 2 1 rfl dX6_readE_1 rfl ?_
  refine r_cViI C 5 [] (hG.2.1 x1 h) dX6_readE_2 lvX6_86 kt_194 rfl rfl rfl (Nat.le_refl _) (by omega) rfl rfl (Nat.le_of_ble_eq_true rfl) rfl rfl (fun v_1 h_2 => ?_)
  refine r_if_ne C 8 10 dX6_readE_5 (by decide) rfl (fun c_3 => ?_) (fun c_3 => ?_)
  · refine r_iconst C 9 (nI 0) (by decide) dX6_readE_8 rfl ?_
    exact r_zret C Rr (by decide) dX6_readE_9 (fun _ => rfl) rfl
  · refine r_iconst C 11 (nI 0) (by decide) dX6_readE_10 rfl ?_
    refine r_istore_n C 12 2 [(2, .int ((nI 0))), (0, .ref (kad κ 194)), (1, .int (x1))] dX6_readE_11 rfl (by decide) rfl rfl ?_
    refine imp_sub [(0, .ref (kad κ 194)), (1, .int (x1)), (2, .int ((nI 0)))] [1, 2, 0] rfl ?_
    refine imp_b_X6_readE_L12 g hd0 hG C (x1) Rr FU ((nI 0)) h_2
set_option maxHeartbeats 4000000 in
theorem ok_grp : ∀ n, G8 (f_grp n) (3 + n) := by
  intro n
  induction n with
  | zero => exact ⟨fun x h q hq => (by cases hq), fun x h q hq => (by cases hq), fun x h q hq => (by cases hq), fun x h q hq => (by cases hq), fun x h q hq => (by cases hq), fun x h q hq => (by cases hq), fun x h q hq => (by cases hq), fun x h q hq => (by cases hq)⟩
  | succ n ih =>
    refine ⟨?_, ?_, ?_, ?_, ?_, ?_, ?_, ?_⟩
    · intro x h
      show ∀ q, b_X6_readE (f_grp n) x h = some q → _
      exact mg_of RX6 (by decide) rfl (fun _ => Nat.le_of_ble_eq_true rfl) (fun κ C Rr => imp_b_X6_readE (f_grp n) (by omega) ih C x h Rr)
    · intro x h
      show ∀ q, b_X6_readBoth (f_grp n) x h = some q → _
      exact mg_of RX6 (by decide) rfl (fun _ => Nat.le_of_ble_eq_true rfl) (fun κ C Rr => imp_b_X6_readBoth (f_grp n) (by omega) ih C x h Rr)
    · intro x h
      show ∀ q, b_X6_readOne (f_grp n) x h = some q → _
      exact mg_of RX6 (by decide) rfl (fun _ => Nat.le_of_ble_eq_true rfl) (fun κ C Rr => imp_b_X6_readOne (f_grp n) (by omega) ih C x h Rr)
    · intro x h
      show ∀ q, b_X6_readRelation (f_grp n) x h = some q → _
      exact mg_of RX6 (by decide) rfl (fun _ => Nat.le_of_ble_eq_true rfl) (fun κ C Rr => imp_b_X6_readRelation (f_grp n) (by omega) ih C x h Rr)
    · intro x h
      show ∀ q, b_X6_readSum (f_grp n) x h = some q → _
      exact mg_of RX6 (by decide) rfl (fun _ => Nat.le_of_ble_eq_true rfl) (fun κ C Rr => imp_b_X6_readSum (f_grp n) (by omega) ih C x h Rr)
    · intro x h
      show ∀ q, b_X6_readTerm (f_grp n) x h = some q → _
      exact mg_of RX6 (by decide) rfl (fun _ => Nat.le_of_ble_eq_true rfl) (fun κ C Rr => imp_b_X6_readTerm (f_grp n) (by omega) ih C x h Rr)
    · intro x h
      show ∀ q, b_X6_readUnit (f_grp n) x h = some q → _
      exact mg_of RX6 (by decide) rfl (fun _ => Nat.le_of_ble_eq_true rfl) (fun κ C Rr => imp_b_X6_readUnit (f_grp n) (by omega) ih C x h Rr)
    · intro x h
      show ∀ q, b_X6_readInner (f_grp n) x h = some q → _
      exact mg_of RX6 (by decide) rfl (fun _ => Nat.le_of_ble_eq_true rfl) (fun κ C Rr => imp_b_X6_readInner (f_grp n) (by omega) ih C x h Rr)

set_option maxHeartbeats 4000000 in
set_option maxRecDepth 100000 in
theorem imp_f_X5_addBar_63 {κ : Kx (Unit × CH)} (C : Cx κ cX5_addBar RX5 2 1 (40 * 1) []) (x1 : Int32)  (h : CH) (Rr : Rt κ none (fun (_ : Unit × CH) (_ : Nat → Nat) => (none : Option Value)) (fun (q : (Unit × CH)) => q.2)) : Imp κ 0 [(0, .ref (kad κ 63)), (1, .int (x1))] [] h (f_X5_addBar_63 x1 h) := by
  unfold f_X5_addBar_63
  refine r_aload_n C 1 0 rfl dX5_addBar_0 rfl ?_
  refine r_iconst C 2 (nI 1) (by decide) dX5_addBar_1 rfl ?_
  refine r_putZ C 5 dX5_addBar_2 flX5_18 kt_63 rfl rfl (fun h_1 => ?_)
  refine r_aload_n C 6 0 rfl dX5_addBar_5 rfl ?_
  refine r_iload_n C 7 1 rfl dX5_addBar_6 rfl ?_
  refine r_putI C 10 dX5_addBar_7 flX5_22 kt_63 rfl rfl (fun h_2 => ?_)
  refine r_aload_n C 11 0 rfl dX5_addBar_10 rfl ?_
  refine r_aload_n C 12 0 rfl dX5_addBar_11 rfl ?_
  refine r_getI C 15 dX5_addBar_12 flX5_28 kt_63 rfl rfl ?_
  refine r_putI C 18 dX5_addBar_15 flX5_25 kt_63 rfl rfl (fun h_3 => ?_)
  exact r_vret C Rr dX5_addBar_18 (fun _ => rfl) rfl
set_option maxHeartbeats 4000000 in
theorem ok_f_X5_addBar_63 (x1 : Int32)  (h : CH) : ∀ q, f_X5_addBar_63 x1 h = some q → MG yX5_addBar cX5_addBar 2 none [] 1 (fun ad => [.ref (ad 63), .int x1]) h ((fun (_ : Unit × CH) (_ : Nat → Nat) => (none : Option Value)) q) ((fun (q : (Unit × CH)) => q.2) q) := mg_of RX5 (by decide) rfl (fun _ => Nat.le_of_ble_eq_true rfl) (fun κ C Rr => imp_f_X5_addBar_63 C x1 h Rr)
set_option maxHeartbeats 4000000 in
set_option maxRecDepth 100000 in
theorem imp_f_X6_readBar {κ : Kx (Int32 × CH)} (C : Cx κ cX6_readBar RX6 2 104 (40 * 104) [194])   (h : CH) (Rr : Rt κ (some .boolean) (fun (q : Int32 × CH) (_ : Nat → Nat) => some (Value.int q.1)) (fun (q : (Int32 × CH)) => q.2)) : Imp κ 0 [(0, .ref (kad κ 194))] [] h (f_X6_readBar h) := by
  unfold f_X6_readBar
  refine r_aload_n C 1 0 rfl dX6_readBar_0 rfl ?_
  refine r_getR C 4 dX6_readBar_1 flX6_19 kt_194 rfl rf_194_1 rfl ?_
  refine r_getI C 7 dX6_readBar_4 flX6_51 kt_63 rfl rfl ?_
  refine r_if_eq C 10 19 dX6_readBar_7 (by decide) rfl (fun c_1 => ?_) (fun c_1 => ?_)
  · refine r_aload_n C 20 0 rfl dX6_readBar_19 rfl ?_
    refine r_getR C 23 dX6_readBar_20 flX6_15 kt_194 rfl rf_194_0 rfl ?_
    refine r_cViV C 26 [] (ok_f_X8_step h) dX6_readBar_23 lvX6_54 kt_2 rfl rfl rfl (by decide) (Nat.le_of_ble_eq_true rfl) rfl rfl (Nat.le_of_ble_eq_true rfl) rfl rfl (fun _ h_2 => ?_)
    refine r_aload_n C 27 0 rfl dX6_readBar_26 rfl ?_
    refine r_iconst C 28 (nI 1) (by decide) dX6_readBar_27 rfl ?_
    refine r_putZ C 31 dX6_readBar_28 flX6_9 kt_194 rfl rfl (fun h_3 => ?_)
    refine r_aload_n C 32 0 rfl dX6_readBar_31 rfl ?_
    refine r_getR C 35 dX6_readBar_32 flX6_19 kt_194 rfl rf_194_1 rfl ?_
    refine r_cVpI C 38 [] (ok_f_X5_stepsSoFar_63 h_3) dX6_readBar_35 lvX6_57 kt_63 rfl rfl rfl (by decide) (Nat.le_of_ble_eq_true rfl) rfl rfl (Nat.le_of_ble_eq_true rfl) rfl rfl (fun v_4 => ?_)
    refine r_istore_n C 39 1 [(1, .int (v_4)), (0, .ref (kad κ 194))] dX6_readBar_38 rfl (by decide) rfl rfl ?_
    refine r_aload_n C 40 1 rfl dX6_readBar_39 rfl ?_
    refine r_iconst C 41 (nI 0) (by decide) dX6_readBar_40 rfl ?_
    refine r_cViI C 44 [] ((ok_grp 100).1 ((nI 0)) h_3) dX6_readBar_41 lvX6_61 kt_194 rfl rfl rfl (by decide) (Nat.le_of_ble_eq_true rfl) rfl rfl (Nat.le_of_ble_eq_true rfl) rfl rfl (fun v_5 h_6 => ?_)
    refine r_if_eq C 47 59 dX6_readBar_44 (by decide) rfl (fun c_7 => ?_) (fun c_7 => ?_)
    · refine r_iconst C 60 (nI 0) (by decide) dX6_readBar_59 rfl ?_
      exact r_zret C Rr (by decide) dX6_readBar_60 (fun _ => rfl) rfl
    · refine r_aload_n C 48 1 rfl dX6_readBar_47 rfl ?_
      refine r_getR C 51 dX6_readBar_48 flX6_15 kt_194 rfl rf_194_0 rfl ?_
      refine r_bipush C 53 (nI 59) (by decide) dX6_readBar_51 rfl ?_
      refine r_cViI C 56 [] (ok_f_X8_take ((nI 59)) h_6) dX6_readBar_53 lvX6_64 kt_2 rfl rfl rfl (by decide) (Nat.le_of_ble_eq_true rfl) rfl rfl (Nat.le_of_ble_eq_true rfl) rfl rfl (fun v_8 h_9 => ?_)
      refine r_if_ne C 59 61 dX6_readBar_56 (by decide) rfl (fun c_10 => ?_) (fun c_10 => ?_)
      · refine r_iconst C 60 (nI 0) (by decide) dX6_readBar_59 rfl ?_
        exact r_zret C Rr (by decide) dX6_readBar_60 (fun _ => rfl) rfl
      · refine r_aload_n C 62 1 rfl dX6_readBar_61 rfl ?_
        refine r_getR C 65 dX6_readBar_62 flX6_19 kt_194 rfl rf_194_1 rfl ?_
        refine r_iload_n C 66 0 rfl dX6_readBar_65 rfl ?_
        refine r_cViV C 69 [] (ok_f_X5_addBar_63 v_4 h_9) dX6_readBar_66 lvX6_67 kt_63 rfl rfl rfl (by decide) (Nat.le_of_ble_eq_true rfl) rfl rfl (Nat.le_of_ble_eq_true rfl) rfl rfl (fun _ h_11 => ?_)
        refine r_iconst C 70 (nI 1) (by decide) dX6_readBar_69 rfl ?_
        exact r_zret C Rr (by decide) dX6_readBar_70 (fun _ => rfl) rfl
  · refine r_aload_n C 11 0 rfl dX6_readBar_10 rfl ?_
    refine r_getR C 14 dX6_readBar_11 flX6_15 kt_194 rfl rf_194_0 rfl ?_
    refine r_iconst C 15 (nI 2) (by decide) dX6_readBar_14 rfl ?_
    refine r_cViI C 18 [] (ok_f_X8_refuse ((nI 2)) h) dX6_readBar_15 lvX6_47 kt_2 rfl rfl rfl (by decide) (Nat.le_of_ble_eq_true rfl) rfl rfl (Nat.le_of_ble_eq_true rfl) rfl rfl (fun v_12 h_13 => ?_)
    exact r_zretg C Rr dX6_readBar_18 (fun _ => rfl) rfl
set_option maxHeartbeats 4000000 in
theorem ok_f_X6_readBar   (h : CH) : ∀ q, f_X6_readBar h = some q → MG yX6_readBar cX6_readBar 2 (some .boolean) [194] 104 (fun ad => [.ref (ad 194)]) h ((fun (q : Int32 × CH) (_ : Nat → Nat) => some (Value.int q.1)) q) ((fun (q : (Int32 × CH)) => q.2) q) := mg_of RX6 (by decide) rfl (fun _ => Nat.le_of_ble_eq_true rfl) (fun κ C Rr => imp_f_X6_readBar C  h Rr)
set_option maxHeartbeats 4000000 in
set_option maxRecDepth 100000 in
theorem imp_f_X5_hasSign_63_L2 {κ : Kx Int32} (C : Cx κ cX5_hasSign RX5 4 1 (40 * 1) []) (x1 : Int64) (h : CH)    (Rr : Rt κ (some .boolean) (fun (x : Int32) (_ : Nat → Nat) => some (Value.int x)) (fun (_ : Int32) => h)) : ∀ (n : Nat) (x3 : Int32), Imp κ 2 [(0, .ref (kad κ 63)), (1, .long (x1)), (3, .int (x3))] [] h (f_X5_hasSign_63_L2 x1 h n x3) := by
  intro n
  induction n with
  | zero => intros; exact imp_none
  | succ n ih =>
    intro x3
    rw [f_X5_hasSign_63_L2]
    refine r_iload_n C 3 2 rfl dX5_hasSign_2 rfl ?_
    refine r_aload_n C 4 0 rfl dX5_hasSign_3 rfl ?_
    refine r_getI C 7 dX5_hasSign_4 flX5_9 kt_63 rfl rfl ?_
    refine r_icmp_ge C 10 35 dX5_hasSign_7 (by decide) rfl (fun c_1 => ?_) (fun c_1 => ?_)
    · refine r_iload_n C 11 2 rfl dX5_hasSign_10 rfl ?_
      refine r_bipush C 13 (nI 6) (by decide) dX5_hasSign_11 rfl ?_
      refine r_icmp_ge C 16 35 dX5_hasSign_13 (by decide) rfl (fun c_2 => ?_) (fun c_2 => ?_)
      · refine r_aload_n C 17 0 rfl dX5_hasSign_16 rfl ?_
        refine r_getR C 20 dX5_hasSign_17 flX5_31 kt_63 rfl rf_63_6 rfl ?_
        refine r_iload_n C 21 2 rfl dX5_hasSign_20 rfl ?_
        refine r_lald C 22 dX5_hasSign_21 kt_64 rfl rfl (fun v_3 => ?_)
        refine r_lload_n C 23 1 rfl dX5_hasSign_22 rfl ?_
        refine r_lcmp C 24 dX5_hasSign_23 rfl ?_
        refine r_if_ne C 27 29 dX5_hasSign_24 (by decide) rfl (fun c_4 => ?_) (fun c_4 => ?_)
        · refine r_iconst C 28 (nI 1) (by decide) dX5_hasSign_27 rfl ?_
          exact r_zret C Rr (by decide) dX5_hasSign_28 (fun _ => rfl) rfl
        · refine r_iinc C 32 2 (nI 1) [(3, .int (x3 + (nI 1))), (0, .ref (kad κ 63)), (1, .long (x1))] dX5_hasSign_29 rfl (by decide) (by decide) rfl rfl ?_
          refine r_goto C 2 dX5_hasSign_32 (by decide) ?_
          exact imp_sub [(0, .ref (kad κ 63)), (1, .long (x1)), (3, .int (x3 + (nI 1)))] [1, 2, 0] rfl (ih (x3 + (nI 1)))
      · refine r_iconst C 36 (nI 0) (by decide) dX5_hasSign_35 rfl ?_
        exact r_zret C Rr (by decide) dX5_hasSign_36 (fun _ => rfl) rfl
    · refine r_iconst C 36 (nI 0) (by decide) dX5_hasSign_35 rfl ?_
      exact r_zret C Rr (by decide) dX5_hasSign_36 (fun _ => rfl) rfl
set_option maxHeartbeats 4000000 in
set_option maxRecDepth 100000 in
theorem imp_f_X5_hasSign_63 {κ : Kx Int32} (C : Cx κ cX5_hasSign RX5 4 1 (40 * 1) []) (x1 : Int64)  (h : CH) (Rr : Rt κ (some .boolean) (fun (x : Int32) (_ : Nat → Nat) => some (Value.int x)) (fun (_ : Int32) => h)) : Imp κ 0 [(0, .ref (kad κ 63)), (1, .long (x1))] [] h (f_X5_hasSign_63 x1 h) := by
  unfold f_X5_hasSign_63
  refine r_iconst C 1 (nI 0) (by decide) dX5_hasSign_0 rfl ?_
  refine r_istore_n C 2 3 [(3, .int ((nI 0))), (0, .ref (kad κ 63)), (1, .long (x1))] dX5_hasSign_1 rfl (by decide) rfl rfl ?_
  refine imp_sub [(0, .ref (kad κ 63)), (1, .long (x1)), (3, .int ((nI 0)))] [1, 2, 0] rfl ?_
  refine imp_f_X5_hasSign_63_L2 C (x1) h Rr FU ((nI 0))
set_option maxHeartbeats 4000000 in
theorem ok_f_X5_hasSign_63 (x1 : Int64)  (h : CH) : ∀ q, f_X5_hasSign_63 x1 h = some q → MG yX5_hasSign cX5_hasSign 4 (some .boolean) [] 1 (fun ad => [.ref (ad 63), .long x1]) h ((fun (x : Int32) (_ : Nat → Nat) => some (Value.int x)) q) ((fun (_ : Int32) => h) q) := mg_of RX5 (by decide) rfl (fun _ => Nat.le_of_ble_eq_true rfl) (fun κ C Rr => imp_f_X5_hasSign_63 C x1 h Rr)
set_option maxHeartbeats 4000000 in
set_option maxRecDepth 100000 in
theorem imp_f_X5_addSign_63 {κ : Kx (Unit × CH)} (C : Cx κ cX5_addSign RX5 4 1 (40 * 1) []) (x1 : Int64) (x3 : Int32)  (h : CH) (Rr : Rt κ none (fun (_ : Unit × CH) (_ : Nat → Nat) => (none : Option Value)) (fun (q : (Unit × CH)) => q.2)) : Imp κ 0 [(0, .ref (kad κ 63)), (1, .long (x1)), (3, .int (x3))] [] h (f_X5_addSign_63 x1 x3 h) := by
  unfold f_X5_addSign_63
  refine r_aload_n C 1 0 rfl dX5_addSign_0 rfl ?_
  refine r_getI C 4 dX5_addSign_1 flX5_9 kt_63 rfl rfl ?_
  refine r_bipush C 6 (nI 6) (by decide) dX5_addSign_4 rfl ?_
  refine r_icmp_ge C 9 52 dX5_addSign_6 (by decide) rfl (fun c_1 => ?_) (fun c_1 => ?_)
  · refine r_aload_n C 10 0 rfl dX5_addSign_9 rfl ?_
    refine r_getR C 13 dX5_addSign_10 flX5_31 kt_63 rfl rf_63_6 rfl ?_
    refine r_aload_n C 14 0 rfl dX5_addSign_13 rfl ?_
    refine r_getI C 17 dX5_addSign_14 flX5_9 kt_63 rfl rfl ?_
    refine r_lload_n C 18 1 rfl dX5_addSign_17 rfl ?_
    refine r_last C 19 dX5_addSign_18 kt_64 rfl rfl (fun h_2 => ?_)
    refine r_aload_n C 20 0 rfl dX5_addSign_19 rfl ?_
    refine r_getR C 23 dX5_addSign_20 flX5_35 kt_63 rfl rf_63_7 rfl ?_
    refine r_aload_n C 24 0 rfl dX5_addSign_23 rfl ?_
    refine r_getI C 27 dX5_addSign_24 flX5_9 kt_63 rfl rfl ?_
    refine r_iload_n C 28 2 rfl dX5_addSign_27 rfl ?_
    refine r_iast C 29 dX5_addSign_28 kt_65 rfl rfl (fun h_3 => ?_)
    refine r_aload_n C 30 0 rfl dX5_addSign_29 rfl ?_
    refine r_getR C 33 dX5_addSign_30 flX5_39 kt_63 rfl rf_63_8 rfl ?_
    refine r_aload_n C 34 0 rfl dX5_addSign_33 rfl ?_
    refine r_getI C 37 dX5_addSign_34 flX5_9 kt_63 rfl rfl ?_
    refine r_aload_n C 38 0 rfl dX5_addSign_37 rfl ?_
    refine r_getI C 41 dX5_addSign_38 flX5_28 kt_63 rfl rfl ?_
    refine r_iast C 42 dX5_addSign_41 kt_66 rfl rfl (fun h_4 => ?_)
    refine r_aload_n C 43 0 rfl dX5_addSign_42 rfl ?_
    refine r_dup C 44 rfl dX5_addSign_43 rfl ?_
    refine r_getI C 47 dX5_addSign_44 flX5_9 kt_63 rfl rfl ?_
    refine r_iconst C 48 (nI 1) (by decide) dX5_addSign_47 rfl ?_
    refine r_iadd C 49 dX5_addSign_48 rfl ?_
    refine r_putI C 52 dX5_addSign_49 flX5_9 kt_63 rfl rfl (fun h_5 => ?_)
    exact r_vret C Rr dX5_addSign_52 (fun _ => rfl) rfl
  · exact r_vret C Rr dX5_addSign_52 (fun _ => rfl) rfl
set_option maxHeartbeats 4000000 in
theorem ok_f_X5_addSign_63 (x1 : Int64) (x3 : Int32)  (h : CH) : ∀ q, f_X5_addSign_63 x1 x3 h = some q → MG yX5_addSign cX5_addSign 4 none [] 1 (fun ad => [.ref (ad 63), .long x1, .int x3]) h ((fun (_ : Unit × CH) (_ : Nat → Nat) => (none : Option Value)) q) ((fun (q : (Unit × CH)) => q.2) q) := mg_of RX5 (by decide) rfl (fun _ => Nat.le_of_ble_eq_true rfl) (fun κ C Rr => imp_f_X5_addSign_63 C x1 x3 h Rr)
set_option maxHeartbeats 4000000 in
set_option maxRecDepth 100000 in
theorem imp_f_X6_readSign {κ : Kx (Int32 × CH)} (C : Cx κ cX6_readSign RX6 4 104 (40 * 104) [194])   (h : CH) (Rr : Rt κ (some .boolean) (fun (q : Int32 × CH) (_ : Nat → Nat) => some (Value.int q.1)) (fun (q : (Int32 × CH)) => q.2)) : Imp κ 0 [(0, .ref (kad κ 194))] [] h (f_X6_readSign h) := by
  unfold f_X6_readSign
  refine r_aload_n C 1 0 rfl dX6_readSign_0 rfl ?_
  refine r_getR C 4 dX6_readSign_1 flX6_19 kt_194 rfl rf_194_1 rfl ?_
  refine r_getI C 7 dX6_readSign_4 flX6_71 kt_63 rfl rfl ?_
  refine r_bipush C 9 (nI 6) (by decide) dX6_readSign_7 rfl ?_
  refine r_icmp_lt C 12 21 dX6_readSign_9 (by decide) rfl (fun c_1 => ?_) (fun c_1 => ?_)
  · refine r_aload_n C 22 0 rfl dX6_readSign_21 rfl ?_
    refine r_getR C 25 dX6_readSign_22 flX6_15 kt_194 rfl rf_194_0 rfl ?_
    refine r_cViV C 28 [] (ok_f_X8_step h) dX6_readSign_25 lvX6_54 kt_2 rfl rfl rfl (by decide) (Nat.le_of_ble_eq_true rfl) rfl rfl (Nat.le_of_ble_eq_true rfl) rfl rfl (fun _ h_2 => ?_)
    refine r_aload_n C 29 0 rfl dX6_readSign_28 rfl ?_
    refine r_getR C 32 dX6_readSign_29 flX6_15 kt_194 rfl rf_194_0 rfl ?_
    refine r_getI C 35 dX6_readSign_32 flX6_32 kt_2 rfl rfl ?_
    refine r_bipush C 37 (nI 24) (by decide) dX6_readSign_35 rfl ?_
    refine r_icmp_eq C 40 49 dX6_readSign_37 (by decide) rfl (fun c_3 => ?_) (fun c_3 => ?_)
    · refine r_aload_n C 50 0 rfl dX6_readSign_49 rfl ?_
      refine r_getR C 53 dX6_readSign_50 flX6_15 kt_194 rfl rf_194_0 rfl ?_
      refine r_getL C 56 dX6_readSign_53 flX6_74 kt_2 rfl rfl ?_
      refine r_lstore_n C 57 1 [(1, .long (h_2.2 2 12)), (0, .ref (kad κ 194))] dX6_readSign_56 rfl (by decide) rfl rfl ?_
      refine r_aload_n C 58 1 rfl dX6_readSign_57 rfl ?_
      refine r_getR C 61 dX6_readSign_58 flX6_19 kt_194 rfl rf_194_1 rfl ?_
      refine r_lload_n C 62 0 rfl dX6_readSign_61 rfl ?_
      refine r_cVpI C 65 [] (ok_f_X5_hasSign_63 (h_2.2 2 12) h_2) dX6_readSign_62 lvX6_78 kt_63 rfl rfl rfl (by decide) (Nat.le_of_ble_eq_true rfl) rfl rfl (Nat.le_of_ble_eq_true rfl) rfl rfl (fun v_4 => ?_)
      refine r_if_eq C 68 77 dX6_readSign_65 (by decide) rfl (fun c_5 => ?_) (fun c_5 => ?_)
      · refine r_aload_n C 78 1 rfl dX6_readSign_77 rfl ?_
        refine r_getR C 81 dX6_readSign_78 flX6_15 kt_194 rfl rf_194_0 rfl ?_
        refine r_cViV C 84 [] (ok_f_X8_step h_2) dX6_readSign_81 lvX6_54 kt_2 rfl rfl rfl (by decide) (Nat.le_of_ble_eq_true rfl) rfl rfl (Nat.le_of_ble_eq_true rfl) rfl rfl (fun _ h_6 => ?_)
        refine r_aload_n C 85 1 rfl dX6_readSign_84 rfl ?_
        refine r_iconst C 86 (nI 0) (by decide) dX6_readSign_85 rfl ?_
        refine r_putZ C 89 dX6_readSign_86 flX6_9 kt_194 rfl rfl (fun h_7 => ?_)
        refine r_aload_n C 90 1 rfl dX6_readSign_89 rfl ?_
        refine r_getR C 93 dX6_readSign_90 flX6_19 kt_194 rfl rf_194_1 rfl ?_
        refine r_cVpI C 96 [] (ok_f_X5_stepsSoFar_63 h_7) dX6_readSign_93 lvX6_57 kt_63 rfl rfl rfl (by decide) (Nat.le_of_ble_eq_true rfl) rfl rfl (Nat.le_of_ble_eq_true rfl) rfl rfl (fun v_8 => ?_)
        refine r_istore_n C 97 3 [(3, .int (v_8)), (1, .long (h_2.2 2 12)), (0, .ref (kad κ 194))] dX6_readSign_96 rfl (by decide) rfl rfl ?_
        refine r_aload_n C 98 2 rfl dX6_readSign_97 rfl ?_
        refine r_getR C 101 dX6_readSign_98 flX6_15 kt_194 rfl rf_194_0 rfl ?_
        refine r_bipush C 103 (nI 12) (by decide) dX6_readSign_101 rfl ?_
        refine r_cViI C 106 [] (ok_f_X8_take ((nI 12)) h_7) dX6_readSign_103 lvX6_64 kt_2 rfl rfl rfl (by decide) (Nat.le_of_ble_eq_true rfl) rfl rfl (Nat.le_of_ble_eq_true rfl) rfl rfl (fun v_9 h_10 => ?_)
        refine r_if_eq C 109 129 dX6_readSign_106 (by decide) rfl (fun c_11 => ?_) (fun c_11 => ?_)
        · refine r_iconst C 130 (nI 0) (by decide) dX6_readSign_129 rfl ?_
          exact r_zret C Rr (by decide) dX6_readSign_130 (fun _ => rfl) rfl
        · refine r_aload_n C 110 2 rfl dX6_readSign_109 rfl ?_
          refine r_iconst C 111 (nI 0) (by decide) dX6_readSign_110 rfl ?_
          refine r_cViI C 114 [] ((ok_grp 100).1 ((nI 0)) h_10) dX6_readSign_111 lvX6_61 kt_194 rfl rfl rfl (by decide) (Nat.le_of_ble_eq_true rfl) rfl rfl (Nat.le_of_ble_eq_true rfl) rfl rfl (fun v_12 h_13 => ?_)
          refine r_if_eq C 117 129 dX6_readSign_114 (by decide) rfl (fun c_14 => ?_) (fun c_14 => ?_)
          · refine r_iconst C 130 (nI 0) (by decide) dX6_readSign_129 rfl ?_
            exact r_zret C Rr (by decide) dX6_readSign_130 (fun _ => rfl) rfl
          · refine r_aload_n C 118 2 rfl dX6_readSign_117 rfl ?_
            refine r_getR C 121 dX6_readSign_118 flX6_15 kt_194 rfl rf_194_0 rfl ?_
            refine r_bipush C 123 (nI 59) (by decide) dX6_readSign_121 rfl ?_
            refine r_cViI C 126 [] (ok_f_X8_take ((nI 59)) h_13) dX6_readSign_123 lvX6_64 kt_2 rfl rfl rfl (by decide) (Nat.le_of_ble_eq_true rfl) rfl rfl (Nat.le_of_ble_eq_true rfl) rfl rfl (fun v_15 h_16 => ?_)
            refine r_if_ne C 129 131 dX6_readSign_126 (by decide) rfl (fun c_17 => ?_) (fun c_17 => ?_)
            · refine r_iconst C 130 (nI 0) (by decide) dX6_readSign_129 rfl ?_
              exact r_zret C Rr (by decide) dX6_readSign_130 (fun _ => rfl) rfl
            · refine r_aload_n C 132 2 rfl dX6_readSign_131 rfl ?_
              refine r_getR C 135 dX6_readSign_132 flX6_19 kt_194 rfl rf_194_1 rfl ?_
              refine r_lload_n C 136 1 rfl dX6_readSign_135 rfl ?_
              refine r_iload_n C 137 0 rfl dX6_readSign_136 rfl ?_
              refine r_cViV C 140 [] (ok_f_X5_addSign_63 (h_2.2 2 12) v_8 h_16) dX6_readSign_137 lvX6_82 kt_63 rfl rfl rfl (by decide) (Nat.le_of_ble_eq_true rfl) rfl rfl (Nat.le_of_ble_eq_true rfl) rfl rfl (fun _ h_18 => ?_)
              refine r_iconst C 141 (nI 1) (by decide) dX6_readSign_140 rfl ?_
              exact r_zret C Rr (by decide) dX6_readSign_141 (fun _ => rfl) rfl
      · refine r_aload_n C 69 1 rfl dX6_readSign_68 rfl ?_
        refine r_getR C 72 dX6_readSign_69 flX6_15 kt_194 rfl rf_194_0 rfl ?_
        refine r_iconst C 73 (nI 3) (by decide) dX6_readSign_72 rfl ?_
        refine r_cViI C 76 [] (ok_f_X8_refuse ((nI 3)) h_2) dX6_readSign_73 lvX6_47 kt_2 rfl rfl rfl (by decide) (Nat.le_of_ble_eq_true rfl) rfl rfl (Nat.le_of_ble_eq_true rfl) rfl rfl (fun v_19 h_20 => ?_)
        exact r_zretg C Rr dX6_readSign_76 (fun _ => rfl) rfl
    · refine r_aload_n C 41 0 rfl dX6_readSign_40 rfl ?_
      refine r_getR C 44 dX6_readSign_41 flX6_15 kt_194 rfl rf_194_0 rfl ?_
      refine r_iconst C 45 (nI 2) (by decide) dX6_readSign_44 rfl ?_
      refine r_cViI C 48 [] (ok_f_X8_refuse ((nI 2)) h_2) dX6_readSign_45 lvX6_47 kt_2 rfl rfl rfl (by decide) (Nat.le_of_ble_eq_true rfl) rfl rfl (Nat.le_of_ble_eq_true rfl) rfl rfl (fun v_21 h_22 => ?_)
      exact r_zretg C Rr dX6_readSign_48 (fun _ => rfl) rfl
  · refine r_aload_n C 13 0 rfl dX6_readSign_12 rfl ?_
    refine r_getR C 16 dX6_readSign_13 flX6_15 kt_194 rfl rf_194_0 rfl ?_
    refine r_iconst C 17 (nI 2) (by decide) dX6_readSign_16 rfl ?_
    refine r_cViI C 20 [] (ok_f_X8_refuse ((nI 2)) h) dX6_readSign_17 lvX6_47 kt_2 rfl rfl rfl (by decide) (Nat.le_of_ble_eq_true rfl) rfl rfl (Nat.le_of_ble_eq_true rfl) rfl rfl (fun v_23 h_24 => ?_)
    exact r_zretg C Rr dX6_readSign_20 (fun _ => rfl) rfl
set_option maxHeartbeats 4000000 in
theorem ok_f_X6_readSign   (h : CH) : ∀ q, f_X6_readSign h = some q → MG yX6_readSign cX6_readSign 4 (some .boolean) [194] 104 (fun ad => [.ref (ad 194)]) h ((fun (q : Int32 × CH) (_ : Nat → Nat) => some (Value.int q.1)) q) ((fun (q : (Int32 × CH)) => q.2) q) := mg_of RX6 (by decide) rfl (fun _ => Nat.le_of_ble_eq_true rfl) (fun κ C Rr => imp_f_X6_readSign C  h Rr)
set_option maxHeartbeats 4000000 in
set_option maxRecDepth 100000 in
theorem imp_f_X6_readLine {κ : Kx (Int32 × CH)} (C : Cx κ cX6_readLine RX6 1 105 (40 * 105) [194])   (h : CH) (Rr : Rt κ (some .boolean) (fun (q : Int32 × CH) (_ : Nat → Nat) => some (Value.int q.1)) (fun (q : (Int32 × CH)) => q.2)) : Imp κ 0 [(0, .ref (kad κ 194))] [] h (f_X6_readLine h) := by
  unfold f_X6_readLine
  refine r_aload_n C 1 0 rfl dX6_readLine_0 rfl ?_
  refine r_getR C 4 dX6_readLine_1 flX6_15 kt_194 rfl rf_194_0 rfl ?_
  refine r_getI C 7 dX6_readLine_4 flX6_32 kt_2 rfl rfl ?_
  refine imp_ite (fun g_1 => ?_) (fun g_1 => ?_)
  · refine r_lookup C 32 dX6_readLine_7 rfl (by rw [g_1]) (by decide) ?_
    refine r_aload_n C 33 0 rfl dX6_readLine_32 rfl ?_
    refine r_cViI C 36 [] (ok_f_X6_readBar h) dX6_readLine_33 lvX6_41 kt_194 rfl rfl rfl (by decide) (Nat.le_of_ble_eq_true rfl) rfl rfl (Nat.le_of_ble_eq_true rfl) rfl rfl (fun v_2 h_3 => ?_)
    exact r_zretg C Rr dX6_readLine_36 (fun _ => rfl) rfl
  · refine imp_ite (fun g_4 => ?_) (fun g_4 => ?_)
    · refine r_lookup C 37 dX6_readLine_7 rfl (by rw [g_4]) (by decide) ?_
      refine r_aload_n C 38 0 rfl dX6_readLine_37 rfl ?_
      refine r_cViI C 41 [] (ok_f_X6_readSign h) dX6_readLine_38 lvX6_44 kt_194 rfl rfl rfl (by decide) (Nat.le_of_ble_eq_true rfl) rfl rfl (Nat.le_of_ble_eq_true rfl) rfl rfl (fun v_5 h_6 => ?_)
      exact r_zretg C Rr dX6_readLine_41 (fun _ => rfl) rfl
    · refine r_lookup C 42 dX6_readLine_7 rfl (lk_none (by intro q hq e; simp only [List.mem_cons, List.not_mem_nil, or_false] at hq; rcases hq with rfl | rfl; (exact g_1 (i32_of e (by decide))); (exact g_4 (i32_of e (by decide))))) (by decide) ?_
      refine r_aload_n C 43 0 rfl dX6_readLine_42 rfl ?_
      refine r_getR C 46 dX6_readLine_43 flX6_15 kt_194 rfl rf_194_0 rfl ?_
      refine r_iconst C 47 (nI 2) (by decide) dX6_readLine_46 rfl ?_
      refine r_cViI C 50 [] (ok_f_X8_refuse ((nI 2)) h) dX6_readLine_47 lvX6_47 kt_2 rfl rfl rfl (by decide) (Nat.le_of_ble_eq_true rfl) rfl rfl (Nat.le_of_ble_eq_true rfl) rfl rfl (fun v_7 h_8 => ?_)
      exact r_zretg C Rr dX6_readLine_50 (fun _ => rfl) rfl
set_option maxHeartbeats 4000000 in
theorem ok_f_X6_readLine   (h : CH) : ∀ q, f_X6_readLine h = some q → MG yX6_readLine cX6_readLine 1 (some .boolean) [194] 105 (fun ad => [.ref (ad 194)]) h ((fun (q : Int32 × CH) (_ : Nat → Nat) => some (Value.int q.1)) q) ((fun (q : (Int32 × CH)) => q.2) q) := mg_of RX6 (by decide) rfl (fun _ => Nat.le_of_ble_eq_true rfl) (fun κ C Rr => imp_f_X6_readLine C  h Rr)
set_option maxHeartbeats 4000000 in
set_option maxRecDepth 100000 in
theorem imp_f_X6_read_L9 {κ : Kx (Int32 × CH)} (C : Cx κ cX6_read RX6 2 106 (40 * 106) [194])     (Rr : Rt κ (some .boolean) (fun (q : Int32 × CH) (_ : Nat → Nat) => some (Value.int q.1)) (fun (q : (Int32 × CH)) => q.2)) : ∀ (n : Nat) (x1 : Int32) (h : CH), Imp κ 9 [(0, .ref (kad κ 194)), (1, .int (x1))] [] h (f_X6_read_L9 n x1 h) := by
  intro n
  induction n with
  | zero => intros; exact imp_none
  | succ n ih =>
    intro x1 h
    rw [f_X6_read_L9]
    refine r_iload_n C 10 1 rfl dX6_read_9 rfl ?_
    refine r_sipush C 13 (nI 800) (by decide) dX6_read_10 rfl ?_
    refine r_icmp_ge C 16 43 dX6_read_13 (by decide) rfl (fun c_2 => ?_) (fun c_2 => ?_)
    · refine r_aload_n C 17 0 rfl dX6_read_16 rfl ?_
      refine r_getR C 20 dX6_read_17 flX6_15 kt_194 rfl rf_194_0 rfl ?_
      refine r_getI C 23 dX6_read_20 flX6_32 kt_2 rfl rfl ?_
      refine r_bipush C 25 (nI 26) (by decide) dX6_read_23 rfl ?_
      refine r_icmp_eq C 28 43 dX6_read_25 (by decide) rfl (fun c_3 => ?_) (fun c_3 => ?_)
      · refine r_iconst C 44 (nI 1) (by decide) dX6_read_43 rfl ?_
        exact r_zret C Rr (by decide) dX6_read_44 (fun _ => rfl) rfl
      · refine r_aload_n C 29 0 rfl dX6_read_28 rfl ?_
        refine r_cViI C 32 [] (ok_f_X6_readLine h) dX6_read_29 lvX6_37 kt_194 rfl rfl rfl (by decide) (Nat.le_of_ble_eq_true rfl) rfl rfl (Nat.le_of_ble_eq_true rfl) rfl rfl (fun v_4 h_5 => ?_)
        refine r_if_ne C 35 37 dX6_read_32 (by decide) rfl (fun c_6 => ?_) (fun c_6 => ?_)
        · refine r_iconst C 36 (nI 0) (by decide) dX6_read_35 rfl ?_
          exact r_zret C Rr (by decide) dX6_read_36 (fun _ => rfl) rfl
        · refine r_iinc C 40 1 (nI 1) [(1, .int (x1 + (nI 1))), (0, .ref (kad κ 194))] dX6_read_37 rfl (by decide) (by decide) rfl rfl ?_
          refine r_goto C 9 dX6_read_40 (by decide) ?_
          exact imp_sub [(0, .ref (kad κ 194)), (1, .int (x1 + (nI 1)))] [1, 0] rfl (ih (x1 + (nI 1)) h_5)
    · refine r_iconst C 44 (nI 1) (by decide) dX6_read_43 rfl ?_
      exact r_zret C Rr (by decide) dX6_read_44 (fun _ => rfl) rfl
set_option maxHeartbeats 4000000 in
set_option maxRecDepth 100000 in
theorem imp_f_X6_read {κ : Kx (Int32 × CH)} (C : Cx κ cX6_read RX6 2 106 (40 * 106) [194])   (h : CH) (Rr : Rt κ (some .boolean) (fun (q : Int32 × CH) (_ : Nat → Nat) => some (Value.int q.1)) (fun (q : (Int32 × CH)) => q.2)) : Imp κ 0 [(0, .ref (kad κ 194))] [] h (f_X6_read h) := by
  unfold f_X6_read
  refine r_aload_n C 1 0 rfl dX6_read_0 rfl ?_
  refine r_getR C 4 dX6_read_1 flX6_19 kt_194 rfl rf_194_1 rfl ?_
  refine r_cViV C 7 [] (ok_f_X5_clear_63 h) dX6_read_4 lvX6_27 kt_63 rfl rfl rfl (by decide) (Nat.le_of_ble_eq_true rfl) rfl rfl (Nat.le_of_ble_eq_true rfl) rfl rfl (fun _ h_1 => ?_)
  refine r_iconst C 8 (nI 0) (by decide) dX6_read_7 rfl ?_
  refine r_istore_n C 9 1 [(1, .int ((nI 0))), (0, .ref (kad κ 194))] dX6_read_8 rfl (by decide) rfl rfl ?_
  refine imp_sub [(0, .ref (kad κ 194)), (1, .int ((nI 0)))] [1, 0] rfl ?_
  refine imp_f_X6_read_L9 C Rr FU ((nI 0)) h_1
set_option maxHeartbeats 4000000 in
theorem ok_f_X6_read   (h : CH) : ∀ q, f_X6_read h = some q → MG yX6_read cX6_read 2 (some .boolean) [194] 106 (fun ad => [.ref (ad 194)]) h ((fun (q : Int32 × CH) (_ : Nat → Nat) => some (Value.int q.1)) q) ((fun (q : (Int32 × CH)) => q.2) q) := mg_of RX6 (by decide) rfl (fun _ => Nat.le_of_ble_eq_true rfl) (fun κ C Rr => imp_f_X6_read C  h Rr)
set_option maxHeartbeats 4000000 in
set_option maxRecDepth 100000 in
theorem imp_f_X5_copyFrom_55_63_L100 {κ : Kx (Unit × CH)} (C : Cx κ cX5_copyFrom RX5 3 1 (40 * 1) [])     (Rr : Rt κ none (fun (_ : Unit × CH) (_ : Nat → Nat) => (none : Option Value)) (fun (q : (Unit × CH)) => q.2)) : ∀ (n : Nat) (x2 : Int32) (h : CH), Imp κ 100 [(0, .ref (kad κ 55)), (1, .ref (kad κ 63)), (2, .int (x2))] [] h (f_X5_copyFrom_55_63_L100 n x2 h) := by
  intro n
  induction n with
  | zero => intros; exact imp_none
  | succ n ih =>
    intro x2 h
    rw [f_X5_copyFrom_55_63_L100]
    refine r_iload_n C 101 2 rfl dX5_copyFrom_100 rfl ?_
    refine r_aload_n C 102 0 rfl dX5_copyFrom_101 rfl ?_
    refine r_getI C 105 dX5_copyFrom_102 flX5_28 kt_55 rfl rfl ?_
    refine r_icmp_ge C 108 145 dX5_copyFrom_105 (by decide) rfl (fun c_14 => ?_) (fun c_14 => ?_)
    · refine r_iload_n C 109 2 rfl dX5_copyFrom_108 rfl ?_
      refine r_sipush C 112 (nI 800) (by decide) dX5_copyFrom_109 rfl ?_
      refine r_icmp_ge C 115 145 dX5_copyFrom_112 (by decide) rfl (fun c_15 => ?_) (fun c_15 => ?_)
      · refine r_aload_n C 116 0 rfl dX5_copyFrom_115 rfl ?_
        refine r_getR C 119 dX5_copyFrom_116 flX5_42 kt_55 rfl rf_55_9 rfl ?_
        refine r_iload_n C 120 2 rfl dX5_copyFrom_119 rfl ?_
        refine r_aload_n C 121 1 rfl dX5_copyFrom_120 rfl ?_
        refine r_getR C 124 dX5_copyFrom_121 flX5_42 kt_63 rfl rf_63_9 rfl ?_
        refine r_iload_n C 125 2 rfl dX5_copyFrom_124 rfl ?_
        refine r_iald C 126 dX5_copyFrom_125 kt_67 rfl rfl (fun v_16 => ?_)
        refine r_iast C 127 dX5_copyFrom_126 kt_59 rfl rfl (fun h_17 => ?_)
        refine r_aload_n C 128 0 rfl dX5_copyFrom_127 rfl ?_
        refine r_getR C 131 dX5_copyFrom_128 flX5_45 kt_55 rfl rf_55_10 rfl ?_
        refine r_iload_n C 132 2 rfl dX5_copyFrom_131 rfl ?_
        refine r_aload_n C 133 1 rfl dX5_copyFrom_132 rfl ?_
        refine r_getR C 136 dX5_copyFrom_133 flX5_45 kt_63 rfl rf_63_10 rfl ?_
        refine r_iload_n C 137 2 rfl dX5_copyFrom_136 rfl ?_
        refine r_iald C 138 dX5_copyFrom_137 kt_68 rfl rfl (fun v_18 => ?_)
        refine r_iast C 139 dX5_copyFrom_138 kt_60 rfl rfl (fun h_19 => ?_)
        refine r_iinc C 142 2 (nI 1) [(2, .int (x2 + (nI 1))), (0, .ref (kad κ 55)), (1, .ref (kad κ 63))] dX5_copyFrom_139 rfl (by decide) (by decide) rfl rfl ?_
        refine r_goto C 100 dX5_copyFrom_142 (by decide) ?_
        exact imp_sub [(0, .ref (kad κ 55)), (1, .ref (kad κ 63)), (2, .int (x2 + (nI 1)))] [1, 2, 0] rfl (ih (x2 + (nI 1)) h_19)
      · exact r_vret C Rr dX5_copyFrom_145 (fun _ => rfl) rfl
    · exact r_vret C Rr dX5_copyFrom_145 (fun _ => rfl) rfl
set_option maxHeartbeats 4000000 in
set_option maxRecDepth 100000 in
theorem imp_f_X5_copyFrom_55_63_L50 {κ : Kx (Unit × CH)} (C : Cx κ cX5_copyFrom RX5 3 1 (40 * 1) [])     (Rr : Rt κ none (fun (_ : Unit × CH) (_ : Nat → Nat) => (none : Option Value)) (fun (q : (Unit × CH)) => q.2)) : ∀ (n : Nat) (x2 : Int32) (h : CH), Imp κ 50 [(0, .ref (kad κ 55)), (1, .ref (kad κ 63)), (2, .int (x2))] [] h (f_X5_copyFrom_55_63_L50 n x2 h) := by
  intro n
  induction n with
  | zero => intros; exact imp_none
  | succ n ih =>
    intro x2 h
    rw [f_X5_copyFrom_55_63_L50]
    refine r_iload_n C 51 2 rfl dX5_copyFrom_50 rfl ?_
    refine r_bipush C 53 (nI 6) (by decide) dX5_copyFrom_51 rfl ?_
    refine r_icmp_ge C 56 98 dX5_copyFrom_53 (by decide) rfl (fun c_7 => ?_) (fun c_7 => ?_)
    · refine r_aload_n C 57 0 rfl dX5_copyFrom_56 rfl ?_
      refine r_getR C 60 dX5_copyFrom_57 flX5_31 kt_55 rfl rf_55_6 rfl ?_
      refine r_iload_n C 61 2 rfl dX5_copyFrom_60 rfl ?_
      refine r_aload_n C 62 1 rfl dX5_copyFrom_61 rfl ?_
      refine r_getR C 65 dX5_copyFrom_62 flX5_31 kt_63 rfl rf_63_6 rfl ?_
      refine r_iload_n C 66 2 rfl dX5_copyFrom_65 rfl ?_
      refine r_lald C 67 dX5_copyFrom_66 kt_64 rfl rfl (fun v_8 => ?_)
      refine r_last C 68 dX5_copyFrom_67 kt_56 rfl rfl (fun h_9 => ?_)
      refine r_aload_n C 69 0 rfl dX5_copyFrom_68 rfl ?_
      refine r_getR C 72 dX5_copyFrom_69 flX5_35 kt_55 rfl rf_55_7 rfl ?_
      refine r_iload_n C 73 2 rfl dX5_copyFrom_72 rfl ?_
      refine r_aload_n C 74 1 rfl dX5_copyFrom_73 rfl ?_
      refine r_getR C 77 dX5_copyFrom_74 flX5_35 kt_63 rfl rf_63_7 rfl ?_
      refine r_iload_n C 78 2 rfl dX5_copyFrom_77 rfl ?_
      refine r_iald C 79 dX5_copyFrom_78 kt_65 rfl rfl (fun v_10 => ?_)
      refine r_iast C 80 dX5_copyFrom_79 kt_57 rfl rfl (fun h_11 => ?_)
      refine r_aload_n C 81 0 rfl dX5_copyFrom_80 rfl ?_
      refine r_getR C 84 dX5_copyFrom_81 flX5_39 kt_55 rfl rf_55_8 rfl ?_
      refine r_iload_n C 85 2 rfl dX5_copyFrom_84 rfl ?_
      refine r_aload_n C 86 1 rfl dX5_copyFrom_85 rfl ?_
      refine r_getR C 89 dX5_copyFrom_86 flX5_39 kt_63 rfl rf_63_8 rfl ?_
      refine r_iload_n C 90 2 rfl dX5_copyFrom_89 rfl ?_
      refine r_iald C 91 dX5_copyFrom_90 kt_66 rfl rfl (fun v_12 => ?_)
      refine r_iast C 92 dX5_copyFrom_91 kt_58 rfl rfl (fun h_13 => ?_)
      refine r_iinc C 95 2 (nI 1) [(2, .int (x2 + (nI 1))), (0, .ref (kad κ 55)), (1, .ref (kad κ 63))] dX5_copyFrom_92 rfl (by decide) (by decide) rfl rfl ?_
      refine r_goto C 50 dX5_copyFrom_95 (by decide) ?_
      exact imp_sub [(0, .ref (kad κ 55)), (1, .ref (kad κ 63)), (2, .int (x2 + (nI 1)))] [1, 2, 0] rfl (ih (x2 + (nI 1)) h_13)
    · refine r_iconst C 99 (nI 0) (by decide) dX5_copyFrom_98 rfl ?_
      refine r_istore_n C 100 2 [(2, .int ((nI 0))), (0, .ref (kad κ 55)), (1, .ref (kad κ 63))] dX5_copyFrom_99 rfl (by decide) rfl rfl ?_
      refine imp_sub [(0, .ref (kad κ 55)), (1, .ref (kad κ 63)), (2, .int ((nI 0)))] [1, 2, 0] rfl ?_
      refine imp_f_X5_copyFrom_55_63_L100 C Rr FU ((nI 0)) h
set_option maxHeartbeats 4000000 in
set_option maxRecDepth 100000 in
theorem imp_f_X5_copyFrom_55_63 {κ : Kx (Unit × CH)} (C : Cx κ cX5_copyFrom RX5 3 1 (40 * 1) [])   (h : CH) (Rr : Rt κ none (fun (_ : Unit × CH) (_ : Nat → Nat) => (none : Option Value)) (fun (q : (Unit × CH)) => q.2)) : Imp κ 0 [(0, .ref (kad κ 55)), (1, .ref (kad κ 63))] [] h (f_X5_copyFrom_55_63 h) := by
  unfold f_X5_copyFrom_55_63
  refine r_aload_n C 1 0 rfl dX5_copyFrom_0 rfl ?_
  refine r_aload_n C 2 1 rfl dX5_copyFrom_1 rfl ?_
  refine r_getI C 5 dX5_copyFrom_2 flX5_9 kt_63 rfl rfl ?_
  refine r_putI C 8 dX5_copyFrom_5 flX5_9 kt_55 rfl rfl (fun h_1 => ?_)
  refine r_aload_n C 9 0 rfl dX5_copyFrom_8 rfl ?_
  refine r_aload_n C 10 1 rfl dX5_copyFrom_9 rfl ?_
  refine r_getI C 13 dX5_copyFrom_10 flX5_15 kt_63 rfl rfl ?_
  refine r_putI C 16 dX5_copyFrom_13 flX5_15 kt_55 rfl rfl (fun h_2 => ?_)
  refine r_aload_n C 17 0 rfl dX5_copyFrom_16 rfl ?_
  refine r_aload_n C 18 1 rfl dX5_copyFrom_17 rfl ?_
  refine r_getI C 21 dX5_copyFrom_18 flX5_28 kt_63 rfl rfl ?_
  refine r_putI C 24 dX5_copyFrom_21 flX5_28 kt_55 rfl rfl (fun h_3 => ?_)
  refine r_aload_n C 25 0 rfl dX5_copyFrom_24 rfl ?_
  refine r_aload_n C 26 1 rfl dX5_copyFrom_25 rfl ?_
  refine r_getI C 29 dX5_copyFrom_26 flX5_18 kt_63 rfl rfl ?_
  refine r_putZ C 32 dX5_copyFrom_29 flX5_18 kt_55 rfl rfl (fun h_4 => ?_)
  refine r_aload_n C 33 0 rfl dX5_copyFrom_32 rfl ?_
  refine r_aload_n C 34 1 rfl dX5_copyFrom_33 rfl ?_
  refine r_getI C 37 dX5_copyFrom_34 flX5_22 kt_63 rfl rfl ?_
  refine r_putI C 40 dX5_copyFrom_37 flX5_22 kt_55 rfl rfl (fun h_5 => ?_)
  refine r_aload_n C 41 0 rfl dX5_copyFrom_40 rfl ?_
  refine r_aload_n C 42 1 rfl dX5_copyFrom_41 rfl ?_
  refine r_getI C 45 dX5_copyFrom_42 flX5_25 kt_63 rfl rfl ?_
  refine r_putI C 48 dX5_copyFrom_45 flX5_25 kt_55 rfl rfl (fun h_6 => ?_)
  refine r_iconst C 49 (nI 0) (by decide) dX5_copyFrom_48 rfl ?_
  refine r_istore_n C 50 2 [(2, .int ((nI 0))), (0, .ref (kad κ 55)), (1, .ref (kad κ 63))] dX5_copyFrom_49 rfl (by decide) rfl rfl ?_
  refine imp_sub [(0, .ref (kad κ 55)), (1, .ref (kad κ 63)), (2, .int ((nI 0)))] [1, 2, 0] rfl ?_
  refine imp_f_X5_copyFrom_55_63_L50 C Rr FU ((nI 0)) h_6
set_option maxHeartbeats 4000000 in
theorem ok_f_X5_copyFrom_55_63   (h : CH) : ∀ q, f_X5_copyFrom_55_63 h = some q → MG yX5_copyFrom cX5_copyFrom 3 none [] 1 (fun ad => [.ref (ad 55), .ref (ad 63)]) h ((fun (_ : Unit × CH) (_ : Nat → Nat) => (none : Option Value)) q) ((fun (q : (Unit × CH)) => q.2) q) := mg_of RX5 (by decide) rfl (fun _ => Nat.le_of_ble_eq_true rfl) (fun κ C Rr => imp_f_X5_copyFrom_55_63 C  h Rr)
set_option maxHeartbeats 4000000 in
set_option maxRecDepth 100000 in
theorem imp_f_X5_lines_55 {κ : Kx Int32} (C : Cx κ cX5_lines RX5 1 1 (40 * 1) [])   (h : CH) (Rr : Rt κ (some .int) (fun (x : Int32) (_ : Nat → Nat) => some (Value.int x)) (fun (_ : Int32) => h)) : Imp κ 0 [(0, .ref (kad κ 55))] [] h (f_X5_lines_55 h) := by
  unfold f_X5_lines_55
  refine r_aload_n C 1 0 rfl dX5_lines_0 rfl ?_
  refine r_getI C 4 dX5_lines_1 flX5_9 kt_55 rfl rfl ?_
  refine r_aload_n C 5 0 rfl dX5_lines_4 rfl ?_
  refine r_getI C 8 dX5_lines_5 flX5_18 kt_55 rfl rfl ?_
  refine imp_jn (fun (j_3 : Int32 → Int32 → Option Int32) => ∀ (s_1 : Int32) (s_2 : Int32), Imp κ 16 [] [.int (s_1), .int (s_2)] h (j_3 s_1 s_2)) ?_ ?_
  · intro s_1 s_2
    refine r_iadd C 17 dX5_lines_16 rfl ?_
    exact r_iret C Rr dX5_lines_17 (fun _ => rfl) rfl
  · intro j_3 hj_3
    refine r_if_eq C 11 15 dX5_lines_8 (by decide) rfl (fun c_4 => ?_) (fun c_4 => ?_)
    · refine r_iconst C 16 (nI 0) (by decide) dX5_lines_15 rfl ?_
      exact imp_sub [] [] rfl (hj_3 ((nI 0)) (h.1 55 0))
    · refine r_iconst C 12 (nI 1) (by decide) dX5_lines_11 rfl ?_
      refine r_goto C 16 dX5_lines_12 (by decide) ?_
      exact imp_sub [] [] rfl (hj_3 ((nI 1)) (h.1 55 0))
set_option maxHeartbeats 4000000 in
theorem ok_f_X5_lines_55   (h : CH) : ∀ q, f_X5_lines_55 h = some q → MG yX5_lines cX5_lines 1 (some .int) [] 1 (fun ad => [.ref (ad 55)]) h ((fun (x : Int32) (_ : Nat → Nat) => some (Value.int x)) q) ((fun (_ : Int32) => h) q) := mg_of RX5 (by decide) rfl (fun _ => Nat.le_of_ble_eq_true rfl) (fun κ C Rr => imp_f_X5_lines_55 C  h Rr)
