/-! the methods do what the functions say, by program -/
set_option maxHeartbeats 4000000 in
set_option maxRecDepth 100000 in
theorem imp_f_X12_isWord {κ : Kx Int32} (C : Cx κ cX12_isWord RX12 3 1 (40 * 1) []) (x1 : Int64)  (h : CH) (Rr : Rt κ (some .boolean) (fun (x : Int32) (_ : Nat → Nat) => some (Value.int x)) (fun (_ : Int32) => h)) : Imp κ 0 [(0, .ref (kad κ 151)), (1, .long (x1))] [] h (f_X12_isWord x1 h) := by
  unfold f_X12_isWord
  refine r_aload_n C 1 0 rfl dX12_isWord_0 rfl ?_
  refine r_getI C 4 dX12_isWord_1 flX12_211 kt_151 rfl rfl ?_
  refine r_iconst C 5 (nI 3) (by decide) dX12_isWord_4 rfl ?_
  refine r_icmp_ne C 8 21 dX12_isWord_5 (by decide) rfl (fun c_1 => ?_) (fun c_1 => ?_)
  · refine r_aload_n C 9 0 rfl dX12_isWord_8 rfl ?_
    refine r_getL C 12 dX12_isWord_9 flX12_218 kt_151 rfl rfl ?_
    refine r_lload_n C 13 1 rfl dX12_isWord_12 rfl ?_
    refine r_lcmp C 14 dX12_isWord_13 rfl ?_
    refine r_if_ne C 17 21 dX12_isWord_14 (by decide) rfl (fun c_2 => ?_) (fun c_2 => ?_)
    · refine r_iconst C 18 (nI 1) (by decide) dX12_isWord_17 rfl ?_
      refine r_goto C 22 dX12_isWord_18 (by decide) ?_
      exact r_zret C Rr (by decide) dX12_isWord_22 (fun _ => rfl) rfl
    · refine r_iconst C 22 (nI 0) (by decide) dX12_isWord_21 rfl ?_
      exact r_zret C Rr (by decide) dX12_isWord_22 (fun _ => rfl) rfl
  · refine r_iconst C 22 (nI 0) (by decide) dX12_isWord_21 rfl ?_
    exact r_zret C Rr (by decide) dX12_isWord_22 (fun _ => rfl) rfl
set_option maxHeartbeats 4000000 in
theorem ok_f_X12_isWord (x1 : Int64)  (h : CH) : ∀ q, f_X12_isWord x1 h = some q → MG yX12_isWord cX12_isWord 3 (some .boolean) [] 1 (fun ad => [.ref (ad 151), .long x1]) h ((fun (x : Int32) (_ : Nat → Nat) => some (Value.int x)) q) ((fun (_ : Int32) => h) q) := mg_of RX12 (by decide) rfl (fun _ => Nat.le_of_ble_eq_true rfl) (fun κ C Rr => imp_f_X12_isWord C x1 h Rr)
set_option maxHeartbeats 4000000 in
set_option maxRecDepth 100000 in
theorem imp_f_X12_after {κ : Kx (Int32 × CH)} (C : Cx κ cX12_after RX12 5 4 (40 * 4) []) (x1 : Int64) (x3 : Int32) (x4 : Int32)  (h : CH) (Rr : Rt κ (some .int) (fun (q : Int32 × CH) (_ : Nat → Nat) => some (Value.int q.1)) (fun (q : (Int32 × CH)) => q.2)) : Imp κ 0 [(0, .ref (kad κ 151)), (1, .long (x1)), (3, .int (x3)), (4, .int (x4))] [] h (f_X12_after x1 x3 x4 h) := by
  unfold f_X12_after
  refine r_aload_n C 1 0 rfl dX12_after_0 rfl ?_
  refine r_aload_n C 2 0 rfl dX12_after_1 rfl ?_
  refine r_lload_n C 3 1 rfl dX12_after_2 rfl ?_
  refine r_cVpI C 6 [.ref (kad κ 151)] (ok_f_X12_isWord x1 h) dX12_after_3 lvX12_249 kt_151 rfl rfl rfl (by decide) (Nat.le_of_ble_eq_true rfl) rfl rfl (Nat.le_of_ble_eq_true rfl) rfl rfl (fun v_1 => ?_)
  refine r_cViV C 9 [] (ok_f_X12_must v_1 h) dX12_after_6 lvX12_252 kt_151 rfl rfl rfl (by decide) (Nat.le_of_ble_eq_true rfl) rfl rfl (Nat.le_of_ble_eq_true rfl) rfl rfl (fun _ h_2 => ?_)
  refine r_aload_n C 10 0 rfl dX12_after_9 rfl ?_
  refine r_iload_n C 11 2 rfl dX12_after_10 rfl ?_
  refine r_iload C 13 3 rfl dX12_after_11 rfl ?_
  refine r_cViI C 16 [] (ok_f_X12_numeral x3 x4 h_2) dX12_after_13 lvX12_256 kt_151 rfl rfl rfl (by decide) (Nat.le_of_ble_eq_true rfl) rfl rfl (Nat.le_of_ble_eq_true rfl) rfl rfl (fun v_3 h_4 => ?_)
  exact r_iret C Rr dX12_after_16 (fun _ => rfl) rfl
set_option maxHeartbeats 4000000 in
theorem ok_f_X12_after (x1 : Int64) (x3 : Int32) (x4 : Int32)  (h : CH) : ∀ q, f_X12_after x1 x3 x4 h = some q → MG yX12_after cX12_after 5 (some .int) [] 4 (fun ad => [.ref (ad 151), .long x1, .int x3, .int x4]) h ((fun (q : Int32 × CH) (_ : Nat → Nat) => some (Value.int q.1)) q) ((fun (q : (Int32 × CH)) => q.2) q) := mg_of RX12 (by decide) rfl (fun _ => Nat.le_of_ble_eq_true rfl) (fun κ C Rr => imp_f_X12_after C x1 x3 x4 h Rr)
set_option maxHeartbeats 4000000 in
set_option maxRecDepth 100000 in
theorem imp_f_X12_readPrinter {κ : Kx (Unit × CH)} (C : Cx κ cX12_readPrinter RX12 2 5 (40 * 5) [])   (h : CH) (Rr : Rt κ none (fun (_ : Unit × CH) (_ : Nat → Nat) => (none : Option Value)) (fun (q : (Unit × CH)) => q.2)) : Imp κ 0 [(0, .ref (kad κ 151))] [] h (f_X12_readPrinter h) := by
  unfold f_X12_readPrinter
  refine r_aload_n C 1 0 rfl dX12_readPrinter_0 rfl ?_
  refine r_getI C 4 dX12_readPrinter_1 flX12_211 kt_151 rfl rfl ?_
  refine r_iconst C 5 (nI 4) (by decide) dX12_readPrinter_4 rfl ?_
  refine imp_jn (fun (j_2 : CH → Option (Unit × CH)) => ∀ (h_1 : CH), Imp κ 44 [(0, .ref (kad κ 151))] [] h_1 (j_2 h_1)) ?_ ?_
  · intro h_1
    refine r_iconst C 45 (nI 4) (by decide) dX12_readPrinter_44 rfl ?_
    refine r_aload_n C 46 0 rfl dX12_readPrinter_45 rfl ?_
    refine r_getI C 49 dX12_readPrinter_46 flX12_263 kt_151 rfl rfl ?_
    refine r_imul C 50 dX12_readPrinter_49 rfl ?_
    refine r_aload_n C 51 0 rfl dX12_readPrinter_50 rfl ?_
    refine r_iconst C 52 (nI 0) (by decide) dX12_readPrinter_51 rfl ?_
    refine r_iconst C 53 (nI 3) (by decide) dX12_readPrinter_52 rfl ?_
    refine r_cViI C 56 [.int (((nI 4)) * (h_1.1 151 27))] (ok_f_X12_numeral ((nI 0)) ((nI 3)) h_1) dX12_readPrinter_53 lvX12_256 kt_151 rfl rfl rfl (by decide) (Nat.le_of_ble_eq_true rfl) rfl rfl (Nat.le_of_ble_eq_true rfl) rfl rfl (fun v_3 h_4 => ?_)
    refine r_iadd C 57 dX12_readPrinter_56 rfl ?_
    refine r_istore_n C 58 1 [(1, .int ((((nI 4)) * (h_1.1 151 27)) + (v_3))), (0, .ref (kad κ 151))] dX12_readPrinter_57 rfl (by decide) rfl rfl ?_
    refine r_aload_n C 59 1 rfl dX12_readPrinter_58 rfl ?_
    refine r_getR C 62 dX12_readPrinter_59 flX12_58 kt_151 rfl rf_151_24 rfl ?_
    refine r_iload_n C 63 0 rfl dX12_readPrinter_62 rfl ?_
    refine r_iconst C 64 (nI 1) (by decide) dX12_readPrinter_63 rfl ?_
    refine r_zast C 65 dX12_readPrinter_64 kt_166 rfl rfl (fun h_5 => ?_)
    refine r_aload_n C 66 1 rfl dX12_readPrinter_65 rfl ?_
    refine r_getR C 69 dX12_readPrinter_66 flX12_45 kt_151 rfl rf_151_20 rfl ?_
    refine r_iload_n C 70 0 rfl dX12_readPrinter_69 rfl ?_
    refine r_aload_n C 71 1 rfl dX12_readPrinter_70 rfl ?_
    refine r_ldc2 C 74 lcX12_163 dX12_readPrinter_71 rfl ?_
    refine r_iconst C 75 (nI 0) (by decide) dX12_readPrinter_74 rfl ?_
    refine r_bipush C 77 (nI 9) (by decide) dX12_readPrinter_75 rfl ?_
    refine r_cViI C 80 [.int ((((nI 4)) * (h_1.1 151 27)) + (v_3)), .ref (kad κ 162)] (ok_f_X12_after 422726431347 ((nI 0)) ((nI 9)) h_5) dX12_readPrinter_77 lvX12_309 kt_151 rfl rfl rfl (by decide) (Nat.le_of_ble_eq_true rfl) rfl rfl (Nat.le_of_ble_eq_true rfl) rfl rfl (fun v_6 h_7 => ?_)
    refine r_iast C 81 dX12_readPrinter_80 kt_162 rfl rfl (fun h_8 => ?_)
    refine r_aload_n C 82 1 rfl dX12_readPrinter_81 rfl ?_
    refine r_getR C 85 dX12_readPrinter_82 flX12_48 kt_151 rfl rf_151_21 rfl ?_
    refine r_iload_n C 86 0 rfl dX12_readPrinter_85 rfl ?_
    refine r_aload_n C 87 1 rfl dX12_readPrinter_86 rfl ?_
    refine r_ldc2 C 90 lcX12_165 dX12_readPrinter_87 rfl ?_
    refine r_iconst C 91 (nI 0) (by decide) dX12_readPrinter_90 rfl ?_
    refine r_bipush C 93 (nI 99) (by decide) dX12_readPrinter_91 rfl ?_
    refine r_cViI C 96 [.int ((((nI 4)) * (h_1.1 151 27)) + (v_3)), .ref (kad κ 163)] (ok_f_X12_after 427071599731 ((nI 0)) ((nI 99)) h_8) dX12_readPrinter_93 lvX12_309 kt_151 rfl rfl rfl (by decide) (Nat.le_of_ble_eq_true rfl) rfl rfl (Nat.le_of_ble_eq_true rfl) rfl rfl (fun v_9 h_10 => ?_)
    refine r_iast C 97 dX12_readPrinter_96 kt_163 rfl rfl (fun h_11 => ?_)
    exact r_vret C Rr dX12_readPrinter_97 (fun _ => rfl) rfl
  · intro j_2 hj_2
    refine r_icmp_ne C 8 44 dX12_readPrinter_5 (by decide) rfl (fun c_12 => ?_) (fun c_12 => ?_)
    · refine r_aload_n C 9 0 rfl dX12_readPrinter_8 rfl ?_
      refine r_getI C 12 dX12_readPrinter_9 flX12_229 kt_151 rfl rfl ?_
      refine r_iconst C 13 (nI 4) (by decide) dX12_readPrinter_12 rfl ?_
      refine r_icmp_ge C 16 44 dX12_readPrinter_13 (by decide) rfl (fun c_13 => ?_) (fun c_13 => ?_)
      · refine r_aload_n C 17 0 rfl dX12_readPrinter_16 rfl ?_
        refine r_getR C 20 dX12_readPrinter_17 flX12_58 kt_151 rfl rf_151_24 rfl ?_
        refine r_iconst C 21 (nI 4) (by decide) dX12_readPrinter_20 rfl ?_
        refine r_aload_n C 22 0 rfl dX12_readPrinter_21 rfl ?_
        refine r_getI C 25 dX12_readPrinter_22 flX12_263 kt_151 rfl rfl ?_
        refine r_imul C 26 dX12_readPrinter_25 rfl ?_
        refine r_aload_n C 27 0 rfl dX12_readPrinter_26 rfl ?_
        refine r_getI C 30 dX12_readPrinter_27 flX12_229 kt_151 rfl rfl ?_
        refine r_iadd C 31 dX12_readPrinter_30 rfl ?_
        refine r_zald C 32 dX12_readPrinter_31 kt_166 rfl rfl (fun v_14 => ?_)
        refine r_if_eq C 35 44 dX12_readPrinter_32 (by decide) rfl (fun c_15 => ?_) (fun c_15 => ?_)
        · exact imp_sub [(0, .ref (kad κ 151))] [0] rfl (hj_2 h)
        · refine r_aload_n C 36 0 rfl dX12_readPrinter_35 rfl ?_
          refine r_iconst C 37 (nI 3) (by decide) dX12_readPrinter_36 rfl ?_
          refine r_aload_n C 38 0 rfl dX12_readPrinter_37 rfl ?_
          refine r_getI C 41 dX12_readPrinter_38 flX12_204 kt_151 rfl rfl ?_
          refine r_cViV C 44 [] (ok_f_X12_fails ((nI 3)) (h.1 151 6) h) dX12_readPrinter_41 lvX12_235 kt_151 rfl rfl rfl (by decide) (Nat.le_of_ble_eq_true rfl) rfl rfl (Nat.le_of_ble_eq_true rfl) rfl rfl (fun _ h_16 => ?_)
          exact imp_sub [(0, .ref (kad κ 151))] [0] rfl (hj_2 h_16)
      · exact imp_sub [(0, .ref (kad κ 151))] [0] rfl (hj_2 h)
    · exact imp_sub [(0, .ref (kad κ 151))] [0] rfl (hj_2 h)
set_option maxHeartbeats 4000000 in
theorem ok_f_X12_readPrinter   (h : CH) : ∀ q, f_X12_readPrinter h = some q → MG yX12_readPrinter cX12_readPrinter 2 none [] 5 (fun ad => [.ref (ad 151)]) h ((fun (_ : Unit × CH) (_ : Nat → Nat) => (none : Option Value)) q) ((fun (q : (Unit × CH)) => q.2) q) := mg_of RX12 (by decide) rfl (fun _ => Nat.le_of_ble_eq_true rfl) (fun κ C Rr => imp_f_X12_readPrinter C  h Rr)
set_option maxHeartbeats 4000000 in
set_option maxRecDepth 100000 in
theorem imp_f_X12_faceHere_L2 {κ : Kx Int32} (C : Cx κ cX12_faceHere RX12 2 1 (40 * 1) []) (h : CH)    (Rr : Rt κ (some .int) (fun (x : Int32) (_ : Nat → Nat) => some (Value.int x)) (fun (_ : Int32) => h)) : ∀ (n : Nat) (x1 : Int32), Imp κ 2 [(0, .ref (kad κ 151)), (1, .int (x1))] [] h (f_X12_faceHere_L2 h n x1) := by
  intro n
  induction n with
  | zero => intros; exact imp_none
  | succ n ih =>
    intro x1
    rw [f_X12_faceHere_L2]
    refine r_iload_n C 3 1 rfl dX12_faceHere_2 rfl ?_
    refine r_aload_n C 4 0 rfl dX12_faceHere_3 rfl ?_
    refine r_getR C 7 dX12_faceHere_4 flX12_24 kt_151 rfl rf_151_13 rfl ?_
    refine r_aload_n C 8 0 rfl dX12_faceHere_7 rfl ?_
    refine r_getI C 11 dX12_faceHere_8 flX12_263 kt_151 rfl rfl ?_
    refine r_iald C 12 dX12_faceHere_11 kt_155 rfl rfl (fun v_1 => ?_)
    refine r_icmp_ge C 15 53 dX12_faceHere_12 (by decide) rfl (fun c_2 => ?_) (fun c_2 => ?_)
    · refine r_aload_n C 16 0 rfl dX12_faceHere_15 rfl ?_
      refine r_getI C 19 dX12_faceHere_16 flX12_211 kt_151 rfl rfl ?_
      refine r_iconst C 20 (nI 2) (by decide) dX12_faceHere_19 rfl ?_
      refine imp_jn (fun (j_3 : Option Int32) =>  Imp κ 47 [(0, .ref (kad κ 151)), (1, .int (x1))] [] h (j_3)) ?_ ?_
      · refine r_iinc C 50 1 (nI 1) [(1, .int (x1 + (nI 1))), (0, .ref (kad κ 151))] dX12_faceHere_47 rfl (by decide) (by decide) rfl rfl ?_
        refine r_goto C 2 dX12_faceHere_50 (by decide) ?_
        exact imp_sub [(0, .ref (kad κ 151)), (1, .int (x1 + (nI 1)))] [1, 0] rfl (ih (x1 + (nI 1)))
      · intro j_3 hj_3
        refine r_icmp_ne C 23 47 dX12_faceHere_20 (by decide) rfl (fun c_4 => ?_) (fun c_4 => ?_)
        · refine r_aload_n C 24 0 rfl dX12_faceHere_23 rfl ?_
          refine r_getR C 27 dX12_faceHere_24 flX12_61 kt_151 rfl rf_151_25 rfl ?_
          refine r_bipush C 29 (nI 16) (by decide) dX12_faceHere_27 rfl ?_
          refine r_aload_n C 30 0 rfl dX12_faceHere_29 rfl ?_
          refine r_getI C 33 dX12_faceHere_30 flX12_263 kt_151 rfl rfl ?_
          refine r_imul C 34 dX12_faceHere_33 rfl ?_
          refine r_iload_n C 35 1 rfl dX12_faceHere_34 rfl ?_
          refine r_iadd C 36 dX12_faceHere_35 rfl ?_
          refine r_lald C 37 dX12_faceHere_36 kt_167 rfl rfl (fun v_5 => ?_)
          refine r_aload_n C 38 0 rfl dX12_faceHere_37 rfl ?_
          refine r_getL C 41 dX12_faceHere_38 flX12_218 kt_151 rfl rfl ?_
          refine r_lcmp C 42 dX12_faceHere_41 rfl ?_
          refine r_if_ne C 45 47 dX12_faceHere_42 (by decide) rfl (fun c_6 => ?_) (fun c_6 => ?_)
          · refine r_iload_n C 46 1 rfl dX12_faceHere_45 rfl ?_
            exact r_iret C Rr dX12_faceHere_46 (fun _ => rfl) rfl
          · exact imp_sub [(0, .ref (kad κ 151)), (1, .int (x1))] [0, 1] rfl (hj_3)
        · exact imp_sub [(0, .ref (kad κ 151)), (1, .int (x1))] [0, 1] rfl (hj_3)
    · refine r_iconst C 54 (-1) (by decide) dX12_faceHere_53 rfl ?_
      exact r_iret C Rr dX12_faceHere_54 (fun _ => rfl) rfl
set_option maxHeartbeats 4000000 in
set_option maxRecDepth 100000 in
theorem imp_f_X12_faceHere {κ : Kx Int32} (C : Cx κ cX12_faceHere RX12 2 1 (40 * 1) [])   (h : CH) (Rr : Rt κ (some .int) (fun (x : Int32) (_ : Nat → Nat) => some (Value.int x)) (fun (_ : Int32) => h)) : Imp κ 0 [(0, .ref (kad κ 151))] [] h (f_X12_faceHere h) := by
  unfold f_X12_faceHere
  refine r_iconst C 1 (nI 0) (by decide) dX12_faceHere_0 rfl ?_
  refine r_istore_n C 2 1 [(1, .int ((nI 0))), (0, .ref (kad κ 151))] dX12_faceHere_1 rfl (by decide) rfl rfl ?_
  refine imp_sub [(0, .ref (kad κ 151)), (1, .int ((nI 0)))] [1, 0] rfl ?_
  refine imp_f_X12_faceHere_L2 C h Rr FU ((nI 0))
set_option maxHeartbeats 4000000 in
theorem ok_f_X12_faceHere   (h : CH) : ∀ q, f_X12_faceHere h = some q → MG yX12_faceHere cX12_faceHere 2 (some .int) [] 1 (fun ad => [.ref (ad 151)]) h ((fun (x : Int32) (_ : Nat → Nat) => some (Value.int x)) q) ((fun (_ : Int32) => h) q) := mg_of RX12 (by decide) rfl (fun _ => Nat.le_of_ble_eq_true rfl) (fun κ C Rr => imp_f_X12_faceHere C  h Rr)
set_option maxHeartbeats 4000000 in
set_option maxRecDepth 100000 in
theorem imp_f_X12_aFace {κ : Kx (Int32 × CH)} (C : Cx κ cX12_aFace RX12 3 3 (40 * 3) []) (x1 : Int32)  (h : CH) (Rr : Rt κ (some .int) (fun (q : Int32 × CH) (_ : Nat → Nat) => some (Value.int q.1)) (fun (q : (Int32 × CH)) => q.2)) : Imp κ 0 [(0, .ref (kad κ 151)), (1, .int (x1))] [] h (f_X12_aFace x1 h) := by
  unfold f_X12_aFace
  refine r_aload_n C 1 0 rfl dX12_aFace_0 rfl ?_
  refine r_cVpI C 4 [] (ok_f_X12_isGood h) dX12_aFace_1 lvX12_239 kt_151 rfl rfl rfl (by decide) (Nat.le_of_ble_eq_true rfl) rfl rfl (Nat.le_of_ble_eq_true rfl) rfl rfl (fun v_1 => ?_)
  refine r_if_ne C 7 9 dX12_aFace_4 (by decide) rfl (fun c_2 => ?_) (fun c_2 => ?_)
  · refine r_iconst C 8 (nI 0) (by decide) dX12_aFace_7 rfl ?_
    exact r_iret C Rr dX12_aFace_8 (fun _ => rfl) rfl
  · refine r_aload_n C 10 0 rfl dX12_aFace_9 rfl ?_
    refine r_cVpI C 13 [] (ok_f_X12_faceHere h) dX12_aFace_10 lvX12_305 kt_151 rfl rfl rfl (by decide) (Nat.le_of_ble_eq_true rfl) rfl rfl (Nat.le_of_ble_eq_true rfl) rfl rfl (fun v_3 => ?_)
    refine r_istore_n C 14 2 [(2, .int (v_3)), (0, .ref (kad κ 151)), (1, .int (x1))] dX12_aFace_13 rfl (by decide) rfl rfl ?_
    refine r_aload_n C 15 1 rfl dX12_aFace_14 rfl ?_
    refine r_getI C 18 dX12_aFace_15 flX12_211 kt_151 rfl rfl ?_
    refine r_iconst C 19 (nI 2) (by decide) dX12_aFace_18 rfl ?_
    refine imp_jn (fun (j_5 : CH → Option (Int32 × CH)) => ∀ (h_4 : CH), Imp κ 63 [(0, .ref (kad κ 151)), (2, .int (v_3))] [] h_4 (j_5 h_4)) ?_ ?_
    · intro h_4
      refine r_aload_n C 64 0 rfl dX12_aFace_63 rfl ?_
      refine r_cVpI C 67 [] (ok_f_X12_isGood h_4) dX12_aFace_64 lvX12_239 kt_151 rfl rfl rfl (by decide) (Nat.le_of_ble_eq_true rfl) rfl rfl (Nat.le_of_ble_eq_true rfl) rfl rfl (fun v_6 => ?_)
      refine imp_jn (fun (j_8 : CH → Option (Int32 × CH)) => ∀ (h_7 : CH), Imp κ 74 [(2, .int (v_3))] [] h_7 (j_8 h_7)) ?_ ?_
      · intro h_7
        refine r_iload_n C 75 0 rfl dX12_aFace_74 rfl ?_
        refine r_if_ge C 78 82 dX12_aFace_75 (by decide) rfl (fun c_9 => ?_) (fun c_9 => ?_)
        · refine r_iconst C 79 (nI 0) (by decide) dX12_aFace_78 rfl ?_
          refine r_goto C 83 dX12_aFace_79 (by decide) ?_
          exact r_iret C Rr dX12_aFace_83 (fun _ => rfl) rfl
        · refine r_iload_n C 83 0 rfl dX12_aFace_82 rfl ?_
          exact r_iret C Rr dX12_aFace_83 (fun _ => rfl) rfl
      · intro j_8 hj_8
        refine r_if_eq C 70 74 dX12_aFace_67 (by decide) rfl (fun c_10 => ?_) (fun c_10 => ?_)
        · exact imp_sub [(2, .int (v_3))] [1] rfl (hj_8 h_4)
        · refine r_aload_n C 71 0 rfl dX12_aFace_70 rfl ?_
          refine r_cViV C 74 [] (ok_f_X12_goOn h_4) dX12_aFace_71 lvX12_243 kt_151 rfl rfl rfl (by decide) (Nat.le_of_ble_eq_true rfl) rfl rfl (Nat.le_of_ble_eq_true rfl) rfl rfl (fun _ h_11 => ?_)
          exact imp_sub [(2, .int (v_3))] [1] rfl (hj_8 h_11)
    · intro j_5 hj_5
      refine r_icmp_eq C 22 29 dX12_aFace_19 (by decide) rfl (fun c_12 => ?_) (fun c_12 => ?_)
      · refine r_iload_n C 30 0 rfl dX12_aFace_29 rfl ?_
        refine r_if_ge C 33 45 dX12_aFace_30 (by decide) rfl (fun c_13 => ?_) (fun c_13 => ?_)
        · refine r_aload_n C 34 1 rfl dX12_aFace_33 rfl ?_
          refine r_iconst C 35 (nI 5) (by decide) dX12_aFace_34 rfl ?_
          refine r_aload_n C 36 1 rfl dX12_aFace_35 rfl ?_
          refine r_getI C 39 dX12_aFace_36 flX12_204 kt_151 rfl rfl ?_
          refine r_cViV C 42 [] (ok_f_X12_fails ((nI 5)) (h.1 151 6) h) dX12_aFace_39 lvX12_235 kt_151 rfl rfl rfl (by decide) (Nat.le_of_ble_eq_true rfl) rfl rfl (Nat.le_of_ble_eq_true rfl) rfl rfl (fun _ h_14 => ?_)
          refine r_goto C 63 dX12_aFace_42 (by decide) ?_
          exact imp_sub [(0, .ref (kad κ 151)), (2, .int (v_3))] [1, 0] rfl (hj_5 h_14)
        · refine r_iload_n C 46 2 rfl dX12_aFace_45 rfl ?_
          refine r_iload_n C 47 0 rfl dX12_aFace_46 rfl ?_
          refine r_ishr C 48 dX12_aFace_47 rfl ?_
          refine r_iconst C 49 (nI 1) (by decide) dX12_aFace_48 rfl ?_
          refine r_iand C 50 dX12_aFace_49 rfl ?_
          refine r_iconst C 51 (nI 1) (by decide) dX12_aFace_50 rfl ?_
          refine r_icmp_ne C 54 63 dX12_aFace_51 (by decide) rfl (fun c_15 => ?_) (fun c_15 => ?_)
          · refine r_aload_n C 55 1 rfl dX12_aFace_54 rfl ?_
            refine r_iconst C 56 (nI 3) (by decide) dX12_aFace_55 rfl ?_
            refine r_aload_n C 57 1 rfl dX12_aFace_56 rfl ?_
            refine r_getI C 60 dX12_aFace_57 flX12_204 kt_151 rfl rfl ?_
            refine r_cViV C 63 [] (ok_f_X12_fails ((nI 3)) (h.1 151 6) h) dX12_aFace_60 lvX12_235 kt_151 rfl rfl rfl (by decide) (Nat.le_of_ble_eq_true rfl) rfl rfl (Nat.le_of_ble_eq_true rfl) rfl rfl (fun _ h_16 => ?_)
            exact imp_sub [(0, .ref (kad κ 151)), (2, .int (v_3))] [1, 0] rfl (hj_5 h_16)
          · exact imp_sub [(0, .ref (kad κ 151)), (2, .int (v_3))] [1, 0] rfl (hj_5 h)
      · refine r_aload_n C 23 1 rfl dX12_aFace_22 rfl ?_
        refine r_cViV C 26 [] (ok_f_X12_misplaced h) dX12_aFace_23 lvX12_246 kt_151 rfl rfl rfl (by decide) (Nat.le_of_ble_eq_true rfl) rfl rfl (Nat.le_of_ble_eq_true rfl) rfl rfl (fun _ h_17 => ?_)
        refine r_goto C 63 dX12_aFace_26 (by decide) ?_
        exact imp_sub [(0, .ref (kad κ 151)), (2, .int (v_3))] [1, 0] rfl (hj_5 h_17)
set_option maxHeartbeats 4000000 in
theorem ok_f_X12_aFace (x1 : Int32)  (h : CH) : ∀ q, f_X12_aFace x1 h = some q → MG yX12_aFace cX12_aFace 3 (some .int) [] 3 (fun ad => [.ref (ad 151), .int x1]) h ((fun (q : Int32 × CH) (_ : Nat → Nat) => some (Value.int q.1)) q) ((fun (q : (Int32 × CH)) => q.2) q) := mg_of RX12 (by decide) rfl (fun _ => Nat.le_of_ble_eq_true rfl) (fun κ C Rr => imp_f_X12_aFace C x1 h Rr)
set_option maxHeartbeats 4000000 in
set_option maxRecDepth 100000 in
theorem imp_f_X12_readKnows {κ : Kx (Unit × CH)} (C : Cx κ cX12_readKnows RX12 3 4 (40 * 4) [])   (h : CH) (Rr : Rt κ none (fun (_ : Unit × CH) (_ : Nat → Nat) => (none : Option Value)) (fun (q : (Unit × CH)) => q.2)) : Imp κ 0 [(0, .ref (kad κ 151))] [] h (f_X12_readKnows h) := by
  unfold f_X12_readKnows
  refine r_aload_n C 1 0 rfl dX12_readKnows_0 rfl ?_
  refine r_iconst C 2 (nI 0) (by decide) dX12_readKnows_1 rfl ?_
  refine r_cViI C 5 [] (ok_f_X12_aFace ((nI 0)) h) dX12_readKnows_2 lvX12_313 kt_151 rfl rfl rfl (by decide) (Nat.le_of_ble_eq_true rfl) rfl rfl (Nat.le_of_ble_eq_true rfl) rfl rfl (fun v_1 h_2 => ?_)
  refine r_istore_n C 6 1 [(1, .int (v_1)), (0, .ref (kad κ 151))] dX12_readKnows_5 rfl (by decide) rfl rfl ?_
  refine r_aload_n C 7 1 rfl dX12_readKnows_6 rfl ?_
  refine r_aload_n C 8 1 rfl dX12_readKnows_7 rfl ?_
  refine r_getR C 11 dX12_readKnows_8 flX12_42 kt_151 rfl rf_151_19 rfl ?_
  refine r_bipush C 13 (nI 16) (by decide) dX12_readKnows_11 rfl ?_
  refine r_aload_n C 14 1 rfl dX12_readKnows_13 rfl ?_
  refine r_getI C 17 dX12_readKnows_14 flX12_263 kt_151 rfl rfl ?_
  refine r_imul C 18 dX12_readKnows_17 rfl ?_
  refine r_iload_n C 19 0 rfl dX12_readKnows_18 rfl ?_
  refine r_iadd C 20 dX12_readKnows_19 rfl ?_
  refine r_iald C 21 dX12_readKnows_20 kt_161 rfl rfl (fun v_3 => ?_)
  refine r_iconst C 22 (nI 1) (by decide) dX12_readKnows_21 rfl ?_
  refine r_iload_n C 23 0 rfl dX12_readKnows_22 rfl ?_
  refine r_ishl C 24 dX12_readKnows_23 rfl ?_
  refine r_ior C 25 dX12_readKnows_24 rfl ?_
  refine r_cViI C 28 [] (ok_f_X12_aFace ((v_3) ||| (((nI 1)) <<< ((v_1) &&& 31))) h_2) dX12_readKnows_25 lvX12_313 kt_151 rfl rfl rfl (by decide) (Nat.le_of_ble_eq_true rfl) rfl rfl (Nat.le_of_ble_eq_true rfl) rfl rfl (fun v_4 h_5 => ?_)
  refine r_istore_n C 29 2 [(2, .int (v_4)), (1, .int (v_1)), (0, .ref (kad κ 151))] dX12_readKnows_28 rfl (by decide) rfl rfl ?_
  refine r_aload_n C 30 2 rfl dX12_readKnows_29 rfl ?_
  refine r_cVpI C 33 [] (ok_f_X12_isGood h_5) dX12_readKnows_30 lvX12_239 kt_151 rfl rfl rfl (by decide) (Nat.le_of_ble_eq_true rfl) rfl rfl (Nat.le_of_ble_eq_true rfl) rfl rfl (fun v_6 => ?_)
  refine r_if_ne C 36 37 dX12_readKnows_33 (by decide) rfl (fun c_7 => ?_) (fun c_7 => ?_)
  · exact r_vret C Rr dX12_readKnows_36 (fun _ => rfl) rfl
  · refine r_aload_n C 38 2 rfl dX12_readKnows_37 rfl ?_
    refine r_getR C 41 dX12_readKnows_38 flX12_42 kt_151 rfl rf_151_19 rfl ?_
    refine r_bipush C 43 (nI 16) (by decide) dX12_readKnows_41 rfl ?_
    refine r_aload_n C 44 2 rfl dX12_readKnows_43 rfl ?_
    refine r_getI C 47 dX12_readKnows_44 flX12_263 kt_151 rfl rfl ?_
    refine r_imul C 48 dX12_readKnows_47 rfl ?_
    refine r_iload_n C 49 1 rfl dX12_readKnows_48 rfl ?_
    refine r_iadd C 50 dX12_readKnows_49 rfl ?_
    refine r_dup2 C 51 rfl rfl dX12_readKnows_50 rfl ?_
    refine r_iald C 52 dX12_readKnows_51 kt_161 rfl rfl (fun v_8 => ?_)
    refine r_iconst C 53 (nI 1) (by decide) dX12_readKnows_52 rfl ?_
    refine r_iload_n C 54 0 rfl dX12_readKnows_53 rfl ?_
    refine r_ishl C 55 dX12_readKnows_54 rfl ?_
    refine r_ior C 56 dX12_readKnows_55 rfl ?_
    refine r_iast C 57 dX12_readKnows_56 kt_161 rfl rfl (fun h_9 => ?_)
    refine r_aload_n C 58 2 rfl dX12_readKnows_57 rfl ?_
    refine r_getR C 61 dX12_readKnows_58 flX12_42 kt_151 rfl rf_151_19 rfl ?_
    refine r_bipush C 63 (nI 16) (by decide) dX12_readKnows_61 rfl ?_
    refine r_aload_n C 64 2 rfl dX12_readKnows_63 rfl ?_
    refine r_getI C 67 dX12_readKnows_64 flX12_263 kt_151 rfl rfl ?_
    refine r_imul C 68 dX12_readKnows_67 rfl ?_
    refine r_iload_n C 69 0 rfl dX12_readKnows_68 rfl ?_
    refine r_iadd C 70 dX12_readKnows_69 rfl ?_
    refine r_dup2 C 71 rfl rfl dX12_readKnows_70 rfl ?_
    refine r_iald C 72 dX12_readKnows_71 kt_161 rfl rfl (fun v_10 => ?_)
    refine r_iconst C 73 (nI 1) (by decide) dX12_readKnows_72 rfl ?_
    refine r_iload_n C 74 1 rfl dX12_readKnows_73 rfl ?_
    refine r_ishl C 75 dX12_readKnows_74 rfl ?_
    refine r_ior C 76 dX12_readKnows_75 rfl ?_
    refine r_iast C 77 dX12_readKnows_76 kt_161 rfl rfl (fun h_11 => ?_)
    refine r_aload_n C 78 2 rfl dX12_readKnows_77 rfl ?_
    refine r_getR C 81 dX12_readKnows_78 flX12_27 kt_151 rfl rf_151_14 rfl ?_
    refine r_aload_n C 82 2 rfl dX12_readKnows_81 rfl ?_
    refine r_getI C 85 dX12_readKnows_82 flX12_263 kt_151 rfl rfl ?_
    refine r_dup2 C 86 rfl rfl dX12_readKnows_85 rfl ?_
    refine r_iald C 87 dX12_readKnows_86 kt_156 rfl rfl (fun v_12 => ?_)
    refine r_iconst C 88 (nI 1) (by decide) dX12_readKnows_87 rfl ?_
    refine r_iadd C 89 dX12_readKnows_88 rfl ?_
    refine r_iast C 90 dX12_readKnows_89 kt_156 rfl rfl (fun h_13 => ?_)
    exact r_vret C Rr dX12_readKnows_90 (fun _ => rfl) rfl
set_option maxHeartbeats 4000000 in
theorem ok_f_X12_readKnows   (h : CH) : ∀ q, f_X12_readKnows h = some q → MG yX12_readKnows cX12_readKnows 3 none [] 4 (fun ad => [.ref (ad 151)]) h ((fun (_ : Unit × CH) (_ : Nat → Nat) => (none : Option Value)) q) ((fun (q : (Unit × CH)) => q.2) q) := mg_of RX12 (by decide) rfl (fun _ => Nat.le_of_ble_eq_true rfl) (fun κ C Rr => imp_f_X12_readKnows C  h Rr)
set_option maxHeartbeats 4000000 in
set_option maxRecDepth 100000 in
theorem imp_f_X12_readFace_L120 {κ : Kx (Unit × CH)} (C : Cx κ cX12_readFace RX12 3 5 (40 * 5) []) (x1 : Int32)    (Rr : Rt κ none (fun (_ : Unit × CH) (_ : Nat → Nat) => (none : Option Value)) (fun (q : (Unit × CH)) => q.2)) : ∀ (n : Nat) (x2 : Int32) (h : CH), Imp κ 120 [(0, .ref (kad κ 151)), (1, .int (x1)), (2, .int (x2))] [] h (f_X12_readFace_L120 x1 n x2 h) := by
  intro n
  induction n with
  | zero => intros; exact imp_none
  | succ n ih =>
    intro x2 h
    rw [f_X12_readFace_L120]
    refine r_iload_n C 121 2 rfl dX12_readFace_120 rfl ?_
    refine r_aload_n C 122 0 rfl dX12_readFace_121 rfl ?_
    refine r_getR C 125 dX12_readFace_122 flX12_20 kt_151 rfl rf_151_12 rfl ?_
    refine r_aload_n C 126 0 rfl dX12_readFace_125 rfl ?_
    refine r_getI C 129 dX12_readFace_126 flX12_263 kt_151 rfl rfl ?_
    refine r_iald C 130 dX12_readFace_129 kt_154 rfl rfl (fun v_16 => ?_)
    refine r_icmp_ge C 133 157 dX12_readFace_130 (by decide) rfl (fun c_17 => ?_) (fun c_17 => ?_)
    · refine r_aload_n C 134 0 rfl dX12_readFace_133 rfl ?_
      refine r_getR C 137 dX12_readFace_134 flX12_39 kt_151 rfl rf_151_18 rfl ?_
      refine r_bipush C 139 (nI 8) (by decide) dX12_readFace_137 rfl ?_
      refine r_iload_n C 140 1 rfl dX12_readFace_139 rfl ?_
      refine r_imul C 141 dX12_readFace_140 rfl ?_
      refine r_iload_n C 142 2 rfl dX12_readFace_141 rfl ?_
      refine r_iadd C 143 dX12_readFace_142 rfl ?_
      refine r_aload_n C 144 0 rfl dX12_readFace_143 rfl ?_
      refine r_iconst C 145 (nI 0) (by decide) dX12_readFace_144 rfl ?_
      refine r_bipush C 147 (nI 99) (by decide) dX12_readFace_145 rfl ?_
      refine r_cViI C 150 [.int ((((nI 8)) * (x1)) + (x2)), .ref (kad κ 160)] (ok_f_X12_numeral ((nI 0)) ((nI 99)) h) dX12_readFace_147 lvX12_256 kt_151 rfl rfl rfl (by decide) (Nat.le_of_ble_eq_true rfl) rfl rfl (Nat.le_of_ble_eq_true rfl) rfl rfl (fun v_18 h_19 => ?_)
      refine r_iast C 151 dX12_readFace_150 kt_160 rfl rfl (fun h_20 => ?_)
      refine r_iinc C 154 2 (nI 1) [(2, .int (x2 + (nI 1))), (0, .ref (kad κ 151)), (1, .int (x1))] dX12_readFace_151 rfl (by decide) (by decide) rfl rfl ?_
      refine r_goto C 120 dX12_readFace_154 (by decide) ?_
      exact imp_sub [(0, .ref (kad κ 151)), (1, .int (x1)), (2, .int (x2 + (nI 1)))] [1, 2, 0] rfl (ih (x2 + (nI 1)) h_20)
    · refine r_aload_n C 158 0 rfl dX12_readFace_157 rfl ?_
      refine r_getR C 161 dX12_readFace_158 flX12_24 kt_151 rfl rf_151_13 rfl ?_
      refine r_aload_n C 162 0 rfl dX12_readFace_161 rfl ?_
      refine r_getI C 165 dX12_readFace_162 flX12_263 kt_151 rfl rfl ?_
      refine r_dup2 C 166 rfl rfl dX12_readFace_165 rfl ?_
      refine r_iald C 167 dX12_readFace_166 kt_155 rfl rfl (fun v_21 => ?_)
      refine r_iconst C 168 (nI 1) (by decide) dX12_readFace_167 rfl ?_
      refine r_iadd C 169 dX12_readFace_168 rfl ?_
      refine r_iast C 170 dX12_readFace_169 kt_155 rfl rfl (fun h_22 => ?_)
      exact r_vret C Rr dX12_readFace_170 (fun _ => rfl) rfl
set_option maxHeartbeats 4000000 in
set_option maxRecDepth 100000 in
theorem imp_f_X12_readFace {κ : Kx (Unit × CH)} (C : Cx κ cX12_readFace RX12 3 5 (40 * 5) [])   (h : CH) (Rr : Rt κ none (fun (_ : Unit × CH) (_ : Nat → Nat) => (none : Option Value)) (fun (q : (Unit × CH)) => q.2)) : Imp κ 0 [(0, .ref (kad κ 151))] [] h (f_X12_readFace h) := by
  unfold f_X12_readFace
  refine r_bipush C 2 (nI 16) (by decide) dX12_readFace_0 rfl ?_
  refine r_aload_n C 3 0 rfl dX12_readFace_2 rfl ?_
  refine r_getI C 6 dX12_readFace_3 flX12_263 kt_151 rfl rfl ?_
  refine r_imul C 7 dX12_readFace_6 rfl ?_
  refine r_aload_n C 8 0 rfl dX12_readFace_7 rfl ?_
  refine r_getR C 11 dX12_readFace_8 flX12_24 kt_151 rfl rf_151_13 rfl ?_
  refine r_aload_n C 12 0 rfl dX12_readFace_11 rfl ?_
  refine r_getI C 15 dX12_readFace_12 flX12_263 kt_151 rfl rfl ?_
  refine r_iald C 16 dX12_readFace_15 kt_155 rfl rfl (fun v_1 => ?_)
  refine r_iadd C 17 dX12_readFace_16 rfl ?_
  refine r_istore_n C 18 1 [(1, .int ((((nI 16)) * (h.1 151 27)) + (v_1))), (0, .ref (kad κ 151))] dX12_readFace_17 rfl (by decide) rfl rfl ?_
  refine r_aload_n C 19 1 rfl dX12_readFace_18 rfl ?_
  refine r_getI C 22 dX12_readFace_19 flX12_211 kt_151 rfl rfl ?_
  refine r_iconst C 23 (nI 2) (by decide) dX12_readFace_22 rfl ?_
  refine imp_jn (fun (j_3 : CH → Option (Unit × CH)) => ∀ (h_2 : CH), Imp κ 49 [(0, .ref (kad κ 151)), (1, .int ((((nI 16)) * (h.1 151 27)) + (v_1)))] [] h_2 (j_3 h_2)) ?_ ?_
  · intro h_2
    refine r_aload_n C 50 0 rfl dX12_readFace_49 rfl ?_
    refine r_getR C 53 dX12_readFace_50 flX12_61 kt_151 rfl rf_151_25 rfl ?_
    refine r_iload_n C 54 1 rfl dX12_readFace_53 rfl ?_
    refine r_aload_n C 55 0 rfl dX12_readFace_54 rfl ?_
    refine r_getL C 58 dX12_readFace_55 flX12_218 kt_151 rfl rfl ?_
    refine r_last C 59 dX12_readFace_58 kt_167 rfl rfl (fun h_4 => ?_)
    refine r_aload_n C 60 0 rfl dX12_readFace_59 rfl ?_
    refine r_aload_n C 61 0 rfl dX12_readFace_60 rfl ?_
    refine r_getI C 64 dX12_readFace_61 flX12_211 kt_151 rfl rfl ?_
    refine r_iconst C 65 (nI 2) (by decide) dX12_readFace_64 rfl ?_
    refine imp_jn (fun (j_6 : Int32 → Option (Unit × CH)) => ∀ (s_5 : Int32), Imp κ 73 [(0, .ref (kad κ 151)), (1, .int ((((nI 16)) * (h.1 151 27)) + (v_1)))] [.int (s_5), .ref (kad κ 151)] h_4 (j_6 s_5)) ?_ ?_
    · intro s_5
      refine r_cViV C 76 [] (ok_f_X12_must s_5 h_4) dX12_readFace_73 lvX12_252 kt_151 rfl rfl rfl (by decide) (Nat.le_of_ble_eq_true rfl) rfl rfl (Nat.le_of_ble_eq_true rfl) rfl rfl (fun _ h_7 => ?_)
      refine r_aload_n C 77 0 rfl dX12_readFace_76 rfl ?_
      refine r_getR C 80 dX12_readFace_77 flX12_33 kt_151 rfl rf_151_16 rfl ?_
      refine r_iload_n C 81 1 rfl dX12_readFace_80 rfl ?_
      refine r_aload_n C 82 0 rfl dX12_readFace_81 rfl ?_
      refine r_ldc2 C 85 lcX12_153 dX12_readFace_82 rfl ?_
      refine r_iconst C 86 (nI 0) (by decide) dX12_readFace_85 rfl ?_
      refine r_iconst C 87 (nI 3) (by decide) dX12_readFace_86 rfl ?_
      refine r_cViI C 90 [.int ((((nI 16)) * (h.1 151 27)) + (v_1)), .ref (kad κ 158)] (ok_f_X12_after 1802071652 ((nI 0)) ((nI 3)) h_7) dX12_readFace_87 lvX12_309 kt_151 rfl rfl rfl (by decide) (Nat.le_of_ble_eq_true rfl) rfl rfl (Nat.le_of_ble_eq_true rfl) rfl rfl (fun v_8 h_9 => ?_)
      refine r_iast C 91 dX12_readFace_90 kt_158 rfl rfl (fun h_10 => ?_)
      refine r_aload_n C 92 0 rfl dX12_readFace_91 rfl ?_
      refine r_getR C 95 dX12_readFace_92 flX12_36 kt_151 rfl rf_151_17 rfl ?_
      refine r_iload_n C 96 1 rfl dX12_readFace_95 rfl ?_
      refine r_aload_n C 97 0 rfl dX12_readFace_96 rfl ?_
      refine r_ldc2 C 100 lcX12_155 dX12_readFace_97 rfl ?_
      refine r_iconst C 101 (nI 0) (by decide) dX12_readFace_100 rfl ?_
      refine r_bipush C 103 (nI 9) (by decide) dX12_readFace_101 rfl ?_
      refine r_cViI C 106 [.int ((((nI 16)) * (h.1 151 27)) + (v_1)), .ref (kad κ 159)] (ok_f_X12_after 431416239732 ((nI 0)) ((nI 9)) h_10) dX12_readFace_103 lvX12_309 kt_151 rfl rfl rfl (by decide) (Nat.le_of_ble_eq_true rfl) rfl rfl (Nat.le_of_ble_eq_true rfl) rfl rfl (fun v_11 h_12 => ?_)
      refine r_iast C 107 dX12_readFace_106 kt_159 rfl rfl (fun h_13 => ?_)
      refine r_aload_n C 108 0 rfl dX12_readFace_107 rfl ?_
      refine r_aload_n C 109 0 rfl dX12_readFace_108 rfl ?_
      refine r_ldc2 C 112 lcX12_157 dX12_readFace_109 rfl ?_
      refine r_cVpI C 115 [.ref (kad κ 151)] (ok_f_X12_isWord 7499639 h_13) dX12_readFace_112 lvX12_249 kt_151 rfl rfl rfl (by decide) (Nat.le_of_ble_eq_true rfl) rfl rfl (Nat.le_of_ble_eq_true rfl) rfl rfl (fun v_14 => ?_)
      refine r_cViV C 118 [] (ok_f_X12_must v_14 h_13) dX12_readFace_115 lvX12_252 kt_151 rfl rfl rfl (by decide) (Nat.le_of_ble_eq_true rfl) rfl rfl (Nat.le_of_ble_eq_true rfl) rfl rfl (fun _ h_15 => ?_)
      refine r_iconst C 119 (nI 0) (by decide) dX12_readFace_118 rfl ?_
      refine r_istore_n C 120 2 [(2, .int ((nI 0))), (0, .ref (kad κ 151)), (1, .int ((((nI 16)) * (h.1 151 27)) + (v_1)))] dX12_readFace_119 rfl (by decide) rfl rfl ?_
      refine imp_sub [(0, .ref (kad κ 151)), (1, .int ((((nI 16)) * (h.1 151 27)) + (v_1))), (2, .int ((nI 0)))] [1, 2, 0] rfl ?_
      refine imp_f_X12_readFace_L120 C ((((nI 16)) * (h.1 151 27)) + (v_1)) Rr FU ((nI 0)) h_15
    · intro j_6 hj_6
      refine r_icmp_ne C 68 72 dX12_readFace_65 (by decide) rfl (fun c_23 => ?_) (fun c_23 => ?_)
      · refine r_iconst C 69 (nI 1) (by decide) dX12_readFace_68 rfl ?_
        refine r_goto C 73 dX12_readFace_69 (by decide) ?_
        exact imp_sub [(0, .ref (kad κ 151)), (1, .int ((((nI 16)) * (h.1 151 27)) + (v_1)))] [0, 1] rfl (hj_6 ((nI 1)))
      · refine r_iconst C 73 (nI 0) (by decide) dX12_readFace_72 rfl ?_
        exact imp_sub [(0, .ref (kad κ 151)), (1, .int ((((nI 16)) * (h.1 151 27)) + (v_1)))] [0, 1] rfl (hj_6 ((nI 0)))
  · intro j_3 hj_3
    refine r_icmp_eq C 26 33 dX12_readFace_23 (by decide) rfl (fun c_24 => ?_) (fun c_24 => ?_)
    · refine r_aload_n C 34 1 rfl dX12_readFace_33 rfl ?_
      refine r_cVpI C 37 [] (ok_f_X12_faceHere h) dX12_readFace_34 lvX12_305 kt_151 rfl rfl rfl (by decide) (Nat.le_of_ble_eq_true rfl) rfl rfl (Nat.le_of_ble_eq_true rfl) rfl rfl (fun v_25 => ?_)
      refine r_if_lt C 40 49 dX12_readFace_37 (by decide) rfl (fun c_26 => ?_) (fun c_26 => ?_)
      · exact imp_sub [(0, .ref (kad κ 151)), (1, .int ((((nI 16)) * (h.1 151 27)) + (v_1)))] [1, 0] rfl (hj_3 h)
      · refine r_aload_n C 41 1 rfl dX12_readFace_40 rfl ?_
        refine r_iconst C 42 (nI 3) (by decide) dX12_readFace_41 rfl ?_
        refine r_aload_n C 43 1 rfl dX12_readFace_42 rfl ?_
        refine r_getI C 46 dX12_readFace_43 flX12_204 kt_151 rfl rfl ?_
        refine r_cViV C 49 [] (ok_f_X12_fails ((nI 3)) (h.1 151 6) h) dX12_readFace_46 lvX12_235 kt_151 rfl rfl rfl (by decide) (Nat.le_of_ble_eq_true rfl) rfl rfl (Nat.le_of_ble_eq_true rfl) rfl rfl (fun _ h_27 => ?_)
        exact imp_sub [(0, .ref (kad κ 151)), (1, .int ((((nI 16)) * (h.1 151 27)) + (v_1)))] [1, 0] rfl (hj_3 h_27)
    · refine r_aload_n C 27 1 rfl dX12_readFace_26 rfl ?_
      refine r_cViV C 30 [] (ok_f_X12_misplaced h) dX12_readFace_27 lvX12_246 kt_151 rfl rfl rfl (by decide) (Nat.le_of_ble_eq_true rfl) rfl rfl (Nat.le_of_ble_eq_true rfl) rfl rfl (fun _ h_28 => ?_)
      refine r_goto C 49 dX12_readFace_30 (by decide) ?_
      exact imp_sub [(0, .ref (kad κ 151)), (1, .int ((((nI 16)) * (h.1 151 27)) + (v_1)))] [1, 0] rfl (hj_3 h_28)
set_option maxHeartbeats 4000000 in
theorem ok_f_X12_readFace   (h : CH) : ∀ q, f_X12_readFace h = some q → MG yX12_readFace cX12_readFace 3 none [] 5 (fun ad => [.ref (ad 151)]) h ((fun (_ : Unit × CH) (_ : Nat → Nat) => (none : Option Value)) q) ((fun (q : (Unit × CH)) => q.2) q) := mg_of RX12 (by decide) rfl (fun _ => Nat.le_of_ble_eq_true rfl) (fun κ C Rr => imp_f_X12_readFace C  h Rr)
set_option maxHeartbeats 4000000 in
set_option maxRecDepth 100000 in
theorem imp_f_X12_isFull {κ : Kx Int32} (C : Cx κ cX12_isFull RX12 1 2 (40 * 2) [])   (h : CH) (Rr : Rt κ (some .boolean) (fun (x : Int32) (_ : Nat → Nat) => some (Value.int x)) (fun (_ : Int32) => h)) : Imp κ 0 [(0, .ref (kad κ 151))] [] h (f_X12_isFull h) := by
  unfold f_X12_isFull
  refine r_aload_n C 1 0 rfl dX12_isFull_0 rfl ?_
  refine r_ldc2 C 4 lcX12_149 dX12_isFull_1 rfl ?_
  refine r_cVpI C 7 [] (ok_f_X12_isWord 123623812527219 h) dX12_isFull_4 lvX12_249 kt_151 rfl rfl rfl (by decide) (Nat.le_of_ble_eq_true rfl) rfl rfl (Nat.le_of_ble_eq_true rfl) rfl rfl (fun v_1 => ?_)
  refine r_if_eq C 10 20 dX12_isFull_7 (by decide) rfl (fun c_2 => ?_) (fun c_2 => ?_)
  · refine r_aload_n C 21 0 rfl dX12_isFull_20 rfl ?_
    refine r_ldc2 C 24 lcX12_151 dX12_isFull_21 rfl ?_
    refine r_cVpI C 27 [] (ok_f_X12_isWord 1717658469 h) dX12_isFull_24 lvX12_249 kt_151 rfl rfl rfl (by decide) (Nat.le_of_ble_eq_true rfl) rfl rfl (Nat.le_of_ble_eq_true rfl) rfl rfl (fun v_3 => ?_)
    refine r_if_eq C 30 50 dX12_isFull_27 (by decide) rfl (fun c_4 => ?_) (fun c_4 => ?_)
    · refine r_aload_n C 51 0 rfl dX12_isFull_50 rfl ?_
      refine r_ldc2 C 54 lcX12_159 dX12_isFull_51 rfl ?_
      refine r_cVpI C 57 [] (ok_f_X12_isWord 461414299507 h) dX12_isFull_54 lvX12_249 kt_151 rfl rfl rfl (by decide) (Nat.le_of_ble_eq_true rfl) rfl rfl (Nat.le_of_ble_eq_true rfl) rfl rfl (fun v_5 => ?_)
      refine r_if_eq C 60 80 dX12_isFull_57 (by decide) rfl (fun c_6 => ?_) (fun c_6 => ?_)
      · refine r_aload_n C 81 0 rfl dX12_isFull_80 rfl ?_
        refine r_ldc2 C 84 lcX12_167 dX12_isFull_81 rfl ?_
        refine r_cVpI C 87 [] (ok_f_X12_isWord 1852137842 h) dX12_isFull_84 lvX12_249 kt_151 rfl rfl rfl (by decide) (Nat.le_of_ble_eq_true rfl) rfl rfl (Nat.le_of_ble_eq_true rfl) rfl rfl (fun v_7 => ?_)
        refine r_if_eq C 90 102 dX12_isFull_87 (by decide) rfl (fun c_8 => ?_) (fun c_8 => ?_)
        · refine r_aload_n C 103 0 rfl dX12_isFull_102 rfl ?_
          refine r_ldc2 C 106 lcX12_161 dX12_isFull_103 rfl ?_
          refine r_cVpI C 109 [] (ok_f_X12_isWord 31650994541847922 h) dX12_isFull_106 lvX12_249 kt_151 rfl rfl rfl (by decide) (Nat.le_of_ble_eq_true rfl) rfl rfl (Nat.le_of_ble_eq_true rfl) rfl rfl (fun v_9 => ?_)
          refine r_if_ne C 112 116 dX12_isFull_109 (by decide) rfl (fun c_10 => ?_) (fun c_10 => ?_)
          · refine r_iconst C 113 (nI 1) (by decide) dX12_isFull_112 rfl ?_
            refine r_goto C 117 dX12_isFull_113 (by decide) ?_
            exact r_zret C Rr (by decide) dX12_isFull_117 (fun _ => rfl) rfl
          · refine r_iconst C 117 (nI 0) (by decide) dX12_isFull_116 rfl ?_
            exact r_zret C Rr (by decide) dX12_isFull_117 (fun _ => rfl) rfl
        · refine r_aload_n C 91 0 rfl dX12_isFull_90 rfl ?_
          refine r_getR C 94 dX12_isFull_91 flX12_55 kt_151 rfl rf_151_23 rfl ?_
          refine r_aload_n C 95 0 rfl dX12_isFull_94 rfl ?_
          refine r_getI C 98 dX12_isFull_95 flX12_263 kt_151 rfl rfl ?_
          refine r_zald C 99 dX12_isFull_98 kt_165 rfl rfl (fun v_11 => ?_)
          refine r_goto C 117 dX12_isFull_99 (by decide) ?_
          exact r_zretg C Rr dX12_isFull_117 (fun _ => rfl) rfl
      · refine r_aload_n C 61 0 rfl dX12_isFull_60 rfl ?_
        refine r_getR C 64 dX12_isFull_61 flX12_27 kt_151 rfl rf_151_14 rfl ?_
        refine r_aload_n C 65 0 rfl dX12_isFull_64 rfl ?_
        refine r_getI C 68 dX12_isFull_65 flX12_263 kt_151 rfl rfl ?_
        refine r_iald C 69 dX12_isFull_68 kt_156 rfl rfl (fun v_12 => ?_)
        refine r_bipush C 71 (nI 20) (by decide) dX12_isFull_69 rfl ?_
        refine r_icmp_ne C 74 78 dX12_isFull_71 (by decide) rfl (fun c_13 => ?_) (fun c_13 => ?_)
        · refine r_iconst C 75 (nI 1) (by decide) dX12_isFull_74 rfl ?_
          refine r_goto C 79 dX12_isFull_75 (by decide) ?_
          exact r_zret C Rr (by decide) dX12_isFull_79 (fun _ => rfl) rfl
        · refine r_iconst C 79 (nI 0) (by decide) dX12_isFull_78 rfl ?_
          exact r_zret C Rr (by decide) dX12_isFull_79 (fun _ => rfl) rfl
    · refine r_aload_n C 31 0 rfl dX12_isFull_30 rfl ?_
      refine r_getR C 34 dX12_isFull_31 flX12_24 kt_151 rfl rf_151_13 rfl ?_
      refine r_aload_n C 35 0 rfl dX12_isFull_34 rfl ?_
      refine r_getI C 38 dX12_isFull_35 flX12_263 kt_151 rfl rfl ?_
      refine r_iald C 39 dX12_isFull_38 kt_155 rfl rfl (fun v_14 => ?_)
      refine r_bipush C 41 (nI 16) (by decide) dX12_isFull_39 rfl ?_
      refine r_icmp_ne C 44 48 dX12_isFull_41 (by decide) rfl (fun c_15 => ?_) (fun c_15 => ?_)
      · refine r_iconst C 45 (nI 1) (by decide) dX12_isFull_44 rfl ?_
        refine r_goto C 49 dX12_isFull_45 (by decide) ?_
        exact r_zret C Rr (by decide) dX12_isFull_49 (fun _ => rfl) rfl
      · refine r_iconst C 49 (nI 0) (by decide) dX12_isFull_48 rfl ?_
        exact r_zret C Rr (by decide) dX12_isFull_49 (fun _ => rfl) rfl
  · refine r_aload_n C 11 0 rfl dX12_isFull_10 rfl ?_
    refine r_getR C 14 dX12_isFull_11 flX12_51 kt_151 rfl rf_151_22 rfl ?_
    refine r_aload_n C 15 0 rfl dX12_isFull_14 rfl ?_
    refine r_getI C 18 dX12_isFull_15 flX12_263 kt_151 rfl rfl ?_
    refine r_zald C 19 dX12_isFull_18 kt_164 rfl rfl (fun v_16 => ?_)
    exact r_zretg C Rr dX12_isFull_19 (fun _ => rfl) rfl
set_option maxHeartbeats 4000000 in
theorem ok_f_X12_isFull   (h : CH) : ∀ q, f_X12_isFull h = some q → MG yX12_isFull cX12_isFull 1 (some .boolean) [] 2 (fun ad => [.ref (ad 151)]) h ((fun (x : Int32) (_ : Nat → Nat) => some (Value.int x)) q) ((fun (_ : Int32) => h) q) := mg_of RX12 (by decide) rfl (fun _ => Nat.le_of_ble_eq_true rfl) (fun κ C Rr => imp_f_X12_isFull C  h Rr)
set_option maxHeartbeats 4000000 in
set_option maxRecDepth 100000 in
theorem imp_f_X12_readLine {κ : Kx (Unit × CH)} (C : Cx κ cX12_readLine RX12 3 6 (40 * 6) [])   (h : CH) (Rr : Rt κ none (fun (_ : Unit × CH) (_ : Nat → Nat) => (none : Option Value)) (fun (q : (Unit × CH)) => q.2)) : Imp κ 0 [(0, .ref (kad κ 151))] [] h (f_X12_readLine h) := by
  unfold f_X12_readLine
  refine r_aload_n C 1 0 rfl dX12_readLine_0 rfl ?_
  refine r_getL C 4 dX12_readLine_1 flX12_218 kt_151 rfl rfl ?_
  refine r_lstore_n C 5 1 [(1, .long (h.2 151 10)), (0, .ref (kad κ 151))] dX12_readLine_4 rfl (by decide) rfl rfl ?_
  refine r_aload_n C 6 1 rfl dX12_readLine_5 rfl ?_
  refine r_getI C 9 dX12_readLine_6 flX12_211 kt_151 rfl rfl ?_
  refine r_iconst C 10 (nI 3) (by decide) dX12_readLine_9 rfl ?_
  refine imp_jn (fun (j_2 : CH → Option (Unit × CH)) => ∀ (h_1 : CH), Imp κ 24 [(0, .ref (kad κ 151)), (1, .long (h.2 151 10))] [] h_1 (j_2 h_1)) ?_ ?_
  · intro h_1
    refine r_aload_n C 25 0 rfl dX12_readLine_24 rfl ?_
    refine r_cVpI C 28 [] (ok_f_X12_isGood h_1) dX12_readLine_25 lvX12_239 kt_151 rfl rfl rfl (by decide) (Nat.le_of_ble_eq_true rfl) rfl rfl (Nat.le_of_ble_eq_true rfl) rfl rfl (fun v_3 => ?_)
    refine r_if_ne C 31 32 dX12_readLine_28 (by decide) rfl (fun c_4 => ?_) (fun c_4 => ?_)
    · exact r_vret C Rr dX12_readLine_31 (fun _ => rfl) rfl
    · refine r_aload_n C 33 0 rfl dX12_readLine_32 rfl ?_
      refine r_cViV C 36 [] (ok_f_X12_goOn h_1) dX12_readLine_33 lvX12_243 kt_151 rfl rfl rfl (by decide) (Nat.le_of_ble_eq_true rfl) rfl rfl (Nat.le_of_ble_eq_true rfl) rfl rfl (fun _ h_5 => ?_)
      refine r_lload_n C 37 1 rfl dX12_readLine_36 rfl ?_
      refine r_ldc2 C 40 lcX12_149 dX12_readLine_37 rfl ?_
      refine r_lcmp C 41 dX12_readLine_40 rfl ?_
      refine imp_jn (fun (j_7 : CH → Option (Unit × CH)) => ∀ (h_6 : CH), Imp κ 60 [(0, .ref (kad κ 151)), (1, .long (h.2 151 10))] [] h_6 (j_7 h_6)) ?_ ?_
      · intro h_6
        refine r_lload_n C 61 1 rfl dX12_readLine_60 rfl ?_
        refine r_ldc2 C 64 lcX12_149 dX12_readLine_61 rfl ?_
        refine r_lcmp C 65 dX12_readLine_64 rfl ?_
        refine imp_jn (fun (j_9 : CH → Option (Unit × CH)) => ∀ (h_8 : CH), Imp κ 86 [(0, .ref (kad κ 151)), (1, .long (h.2 151 10))] [] h_8 (j_9 h_8)) ?_ ?_
        · intro h_8
          refine r_lload_n C 87 1 rfl dX12_readLine_86 rfl ?_
          refine r_ldc2 C 90 lcX12_151 dX12_readLine_87 rfl ?_
          refine r_lcmp C 91 dX12_readLine_90 rfl ?_
          refine imp_jn (fun (j_11 : CH → Option (Unit × CH)) => ∀ (h_10 : CH), Imp κ 98 [(0, .ref (kad κ 151)), (1, .long (h.2 151 10))] [] h_10 (j_11 h_10)) ?_ ?_
          · intro h_10
            refine r_lload_n C 99 1 rfl dX12_readLine_98 rfl ?_
            refine r_ldc2 C 102 lcX12_159 dX12_readLine_99 rfl ?_
            refine r_lcmp C 103 dX12_readLine_102 rfl ?_
            refine imp_jn (fun (j_13 : CH → Option (Unit × CH)) => ∀ (h_12 : CH), Imp κ 110 [(0, .ref (kad κ 151)), (1, .long (h.2 151 10))] [] h_12 (j_13 h_12)) ?_ ?_
            · intro h_12
              refine r_lload_n C 111 1 rfl dX12_readLine_110 rfl ?_
              refine r_ldc2 C 114 lcX12_161 dX12_readLine_111 rfl ?_
              refine r_lcmp C 115 dX12_readLine_114 rfl ?_
              refine imp_jn (fun (j_15 : CH → Option (Unit × CH)) => ∀ (h_14 : CH), Imp κ 122 [(0, .ref (kad κ 151)), (1, .long (h.2 151 10))] [] h_14 (j_15 h_14)) ?_ ?_
              · intro h_14
                refine r_lload_n C 123 1 rfl dX12_readLine_122 rfl ?_
                refine r_ldc2 C 126 lcX12_167 dX12_readLine_123 rfl ?_
                refine r_lcmp C 127 dX12_readLine_126 rfl ?_
                refine imp_jn (fun (j_17 : CH → Option (Unit × CH)) => ∀ (h_16 : CH), Imp κ 147 [(0, .ref (kad κ 151)), (1, .long (h.2 151 10))] [] h_16 (j_17 h_16)) ?_ ?_
                · intro h_16
                  refine r_aload_n C 148 0 rfl dX12_readLine_147 rfl ?_
                  refine r_getR C 151 dX12_readLine_148 flX12_55 kt_151 rfl rf_151_23 rfl ?_
                  refine r_aload_n C 152 0 rfl dX12_readLine_151 rfl ?_
                  refine r_getI C 155 dX12_readLine_152 flX12_263 kt_151 rfl rfl ?_
                  refine r_aload_n C 156 0 rfl dX12_readLine_155 rfl ?_
                  refine r_getR C 159 dX12_readLine_156 flX12_55 kt_151 rfl rf_151_23 rfl ?_
                  refine r_aload_n C 160 0 rfl dX12_readLine_159 rfl ?_
                  refine r_getI C 163 dX12_readLine_160 flX12_263 kt_151 rfl rfl ?_
                  refine r_zald C 164 dX12_readLine_163 kt_165 rfl rfl (fun v_18 => ?_)
                  refine imp_jn (fun (j_21 : Int32 → Int32 → Option (Unit × CH)) => ∀ (s_19 : Int32) (s_20 : Int32), Imp κ 180 [(0, .ref (kad κ 151))] [.int (s_19), .int (s_20), .ref (kad κ 165)] h_16 (j_21 s_19 s_20)) ?_ ?_
                  · intro s_19 s_20
                    refine r_zast C 181 dX12_readLine_180 kt_165 rfl rfl (fun h_22 => ?_)
                    refine r_aload_n C 182 0 rfl dX12_readLine_181 rfl ?_
                    refine r_aload_n C 183 0 rfl dX12_readLine_182 rfl ?_
                    refine r_bipush C 185 (nI 59) (by decide) dX12_readLine_183 rfl ?_
                    refine r_cVpI C 188 [.ref (kad κ 151)] (ok_f_X12_is ((nI 59)) h_22) dX12_readLine_185 lvX12_302 kt_151 rfl rfl rfl (by decide) (Nat.le_of_ble_eq_true rfl) rfl rfl (Nat.le_of_ble_eq_true rfl) rfl rfl (fun v_23 => ?_)
                    refine r_cViV C 191 [] (ok_f_X12_must v_23 h_22) dX12_readLine_188 lvX12_252 kt_151 rfl rfl rfl (by decide) (Nat.le_of_ble_eq_true rfl) rfl rfl (Nat.le_of_ble_eq_true rfl) rfl rfl (fun _ h_24 => ?_)
                    exact r_vret C Rr dX12_readLine_191 (fun _ => rfl) rfl
                  · intro j_21 hj_21
                    refine imp_jn (fun (j_26 : Int32 → Option (Unit × CH)) => ∀ (s_25 : Int32), Imp κ 175 [(0, .ref (kad κ 151))] [.int (s_25), .ref (kad κ 165)] h_16 (j_26 s_25)) ?_ ?_
                    · intro s_25
                      refine r_iconst C 176 (nI 1) (by decide) dX12_readLine_175 rfl ?_
                      refine r_goto C 180 dX12_readLine_176 (by decide) ?_
                      exact imp_sub [(0, .ref (kad κ 151))] [0] rfl (hj_21 ((nI 1)) (s_25))
                    · intro j_26 hj_26
                      refine r_if_ne C 167 175 dX12_readLine_164 (by decide) rfl (fun c_27 => ?_) (fun c_27 => ?_)
                      · refine r_lload_n C 168 1 rfl dX12_readLine_167 rfl ?_
                        refine r_ldc2 C 171 lcX12_167 dX12_readLine_168 rfl ?_
                        refine r_lcmp C 172 dX12_readLine_171 rfl ?_
                        refine r_if_ne C 175 179 dX12_readLine_172 (by decide) rfl (fun c_28 => ?_) (fun c_28 => ?_)
                        · exact imp_sub [(0, .ref (kad κ 151))] [0] rfl (hj_26 (h_16.1 151 27))
                        · refine r_iconst C 180 (nI 0) (by decide) dX12_readLine_179 rfl ?_
                          exact imp_sub [(0, .ref (kad κ 151))] [0] rfl (hj_21 ((nI 0)) (h_16.1 151 27))
                      · exact imp_sub [(0, .ref (kad κ 151))] [0] rfl (hj_26 (h_16.1 151 27))
                · intro j_17 hj_17
                  refine r_if_ne C 130 147 dX12_readLine_127 (by decide) rfl (fun c_29 => ?_) (fun c_29 => ?_)
                  · refine r_aload_n C 131 0 rfl dX12_readLine_130 rfl ?_
                    refine r_getR C 134 dX12_readLine_131 flX12_30 kt_151 rfl rf_151_15 rfl ?_
                    refine r_aload_n C 135 0 rfl dX12_readLine_134 rfl ?_
                    refine r_getI C 138 dX12_readLine_135 flX12_263 kt_151 rfl rfl ?_
                    refine r_aload_n C 139 0 rfl dX12_readLine_138 rfl ?_
                    refine r_iconst C 140 (nI 0) (by decide) dX12_readLine_139 rfl ?_
                    refine r_sipush C 143 (nI 800) (by decide) dX12_readLine_140 rfl ?_
                    refine r_cViI C 146 [.int (h_14.1 151 27), .ref (kad κ 157)] (ok_f_X12_numeral ((nI 0)) ((nI 800)) h_14) dX12_readLine_143 lvX12_256 kt_151 rfl rfl rfl (by decide) (Nat.le_of_ble_eq_true rfl) rfl rfl (Nat.le_of_ble_eq_true rfl) rfl rfl (fun v_30 h_31 => ?_)
                    refine r_iast C 147 dX12_readLine_146 kt_157 rfl rfl (fun h_32 => ?_)
                    exact imp_sub [(0, .ref (kad κ 151)), (1, .long (h.2 151 10))] [0, 1] rfl (hj_17 h_32)
                  · exact imp_sub [(0, .ref (kad κ 151)), (1, .long (h.2 151 10))] [0, 1] rfl (hj_17 h_14)
              · intro j_15 hj_15
                refine r_if_ne C 118 122 dX12_readLine_115 (by decide) rfl (fun c_33 => ?_) (fun c_33 => ?_)
                · refine r_aload_n C 119 0 rfl dX12_readLine_118 rfl ?_
                  refine r_cViV C 122 [] (ok_f_X12_readPrinter h_12) dX12_readLine_119 lvX12_299 kt_151 rfl rfl rfl (by decide) (Nat.le_of_ble_eq_true rfl) rfl rfl (Nat.le_of_ble_eq_true rfl) rfl rfl (fun _ h_34 => ?_)
                  exact imp_sub [(0, .ref (kad κ 151)), (1, .long (h.2 151 10))] [0, 1] rfl (hj_15 h_34)
                · exact imp_sub [(0, .ref (kad κ 151)), (1, .long (h.2 151 10))] [0, 1] rfl (hj_15 h_12)
            · intro j_13 hj_13
              refine r_if_ne C 106 110 dX12_readLine_103 (by decide) rfl (fun c_35 => ?_) (fun c_35 => ?_)
              · refine r_aload_n C 107 0 rfl dX12_readLine_106 rfl ?_
                refine r_cViV C 110 [] (ok_f_X12_readKnows h_10) dX12_readLine_107 lvX12_296 kt_151 rfl rfl rfl (by decide) (Nat.le_of_ble_eq_true rfl) rfl rfl (Nat.le_of_ble_eq_true rfl) rfl rfl (fun _ h_36 => ?_)
                exact imp_sub [(0, .ref (kad κ 151)), (1, .long (h.2 151 10))] [0, 1] rfl (hj_13 h_36)
              · exact imp_sub [(0, .ref (kad κ 151)), (1, .long (h.2 151 10))] [0, 1] rfl (hj_13 h_10)
          · intro j_11 hj_11
            refine r_if_ne C 94 98 dX12_readLine_91 (by decide) rfl (fun c_37 => ?_) (fun c_37 => ?_)
            · refine r_aload_n C 95 0 rfl dX12_readLine_94 rfl ?_
              refine r_cViV C 98 [] (ok_f_X12_readFace h_8) dX12_readLine_95 lvX12_293 kt_151 rfl rfl rfl (by decide) (Nat.le_of_ble_eq_true rfl) rfl rfl (Nat.le_of_ble_eq_true rfl) rfl rfl (fun _ h_38 => ?_)
              exact imp_sub [(0, .ref (kad κ 151)), (1, .long (h.2 151 10))] [0, 1] rfl (hj_11 h_38)
            · exact imp_sub [(0, .ref (kad κ 151)), (1, .long (h.2 151 10))] [0, 1] rfl (hj_11 h_8)
        · intro j_9 hj_9
          refine imp_jn (fun (j_39 : Option (Unit × CH)) =>  Imp κ 76 [(0, .ref (kad κ 151)), (1, .long (h.2 151 10))] [] h_6 (j_39)) ?_ ?_
          · refine r_aload_n C 77 0 rfl dX12_readLine_76 rfl ?_
            refine r_getR C 80 dX12_readLine_77 flX12_51 kt_151 rfl rf_151_22 rfl ?_
            refine r_aload_n C 81 0 rfl dX12_readLine_80 rfl ?_
            refine r_getI C 84 dX12_readLine_81 flX12_263 kt_151 rfl rfl ?_
            refine r_iconst C 85 (nI 1) (by decide) dX12_readLine_84 rfl ?_
            refine r_zast C 86 dX12_readLine_85 kt_164 rfl rfl (fun h_40 => ?_)
            exact imp_sub [(0, .ref (kad κ 151)), (1, .long (h.2 151 10))] [0, 1] rfl (hj_9 h_40)
          · intro j_39 hj_39
            refine r_if_eq C 68 76 dX12_readLine_65 (by decide) rfl (fun c_41 => ?_) (fun c_41 => ?_)
            · exact imp_sub [(0, .ref (kad κ 151)), (1, .long (h.2 151 10))] [0, 1] rfl (hj_39)
            · refine r_lload_n C 69 1 rfl dX12_readLine_68 rfl ?_
              refine r_ldc2 C 72 lcX12_151 dX12_readLine_69 rfl ?_
              refine r_lcmp C 73 dX12_readLine_72 rfl ?_
              refine r_if_ne C 76 86 dX12_readLine_73 (by decide) rfl (fun c_42 => ?_) (fun c_42 => ?_)
              · exact imp_sub [(0, .ref (kad κ 151)), (1, .long (h.2 151 10))] [0, 1] rfl (hj_39)
              · exact imp_sub [(0, .ref (kad κ 151)), (1, .long (h.2 151 10))] [0, 1] rfl (hj_9 h_6)
      · intro j_7 hj_7
        refine r_if_ne C 44 60 dX12_readLine_41 (by decide) rfl (fun c_43 => ?_) (fun c_43 => ?_)
        · refine r_aload_n C 45 0 rfl dX12_readLine_44 rfl ?_
          refine r_getR C 48 dX12_readLine_45 flX12_20 kt_151 rfl rf_151_12 rfl ?_
          refine r_aload_n C 49 0 rfl dX12_readLine_48 rfl ?_
          refine r_getI C 52 dX12_readLine_49 flX12_263 kt_151 rfl rfl ?_
          refine r_aload_n C 53 0 rfl dX12_readLine_52 rfl ?_
          refine r_iconst C 54 (nI 3) (by decide) dX12_readLine_53 rfl ?_
          refine r_bipush C 56 (nI 8) (by decide) dX12_readLine_54 rfl ?_
          refine r_cViI C 59 [.int (h_5.1 151 27), .ref (kad κ 154)] (ok_f_X12_numeral ((nI 3)) ((nI 8)) h_5) dX12_readLine_56 lvX12_256 kt_151 rfl rfl rfl (by decide) (Nat.le_of_ble_eq_true rfl) rfl rfl (Nat.le_of_ble_eq_true rfl) rfl rfl (fun v_44 h_45 => ?_)
          refine r_iast C 60 dX12_readLine_59 kt_154 rfl rfl (fun h_46 => ?_)
          exact imp_sub [(0, .ref (kad κ 151)), (1, .long (h.2 151 10))] [0, 1] rfl (hj_7 h_46)
        · exact imp_sub [(0, .ref (kad κ 151)), (1, .long (h.2 151 10))] [0, 1] rfl (hj_7 h_5)
  · intro j_2 hj_2
    refine imp_jn (fun (j_47 : Option (Unit × CH)) =>  Imp κ 20 [(0, .ref (kad κ 151)), (1, .long (h.2 151 10))] [] h (j_47)) ?_ ?_
    · refine r_aload_n C 21 0 rfl dX12_readLine_20 rfl ?_
      refine r_cViV C 24 [] (ok_f_X12_misplaced h) dX12_readLine_21 lvX12_246 kt_151 rfl rfl rfl (by decide) (Nat.le_of_ble_eq_true rfl) rfl rfl (Nat.le_of_ble_eq_true rfl) rfl rfl (fun _ h_48 => ?_)
      exact imp_sub [(0, .ref (kad κ 151)), (1, .long (h.2 151 10))] [0, 1] rfl (hj_2 h_48)
    · intro j_47 hj_47
      refine r_icmp_ne C 13 20 dX12_readLine_10 (by decide) rfl (fun c_49 => ?_) (fun c_49 => ?_)
      · refine r_aload_n C 14 1 rfl dX12_readLine_13 rfl ?_
        refine r_cVpI C 17 [] (ok_f_X12_isFull h) dX12_readLine_14 lvX12_290 kt_151 rfl rfl rfl (by decide) (Nat.le_of_ble_eq_true rfl) rfl rfl (Nat.le_of_ble_eq_true rfl) rfl rfl (fun v_50 => ?_)
        refine r_if_eq C 20 24 dX12_readLine_17 (by decide) rfl (fun c_51 => ?_) (fun c_51 => ?_)
        · exact imp_sub [(0, .ref (kad κ 151)), (1, .long (h.2 151 10))] [1, 0] rfl (hj_2 h)
        · exact imp_sub [(0, .ref (kad κ 151)), (1, .long (h.2 151 10))] [1, 0] rfl (hj_47)
      · exact imp_sub [(0, .ref (kad κ 151)), (1, .long (h.2 151 10))] [1, 0] rfl (hj_47)
set_option maxHeartbeats 4000000 in
theorem ok_f_X12_readLine   (h : CH) : ∀ q, f_X12_readLine h = some q → MG yX12_readLine cX12_readLine 3 none [] 6 (fun ad => [.ref (ad 151)]) h ((fun (_ : Unit × CH) (_ : Nat → Nat) => (none : Option Value)) q) ((fun (q : (Unit × CH)) => q.2) q) := mg_of RX12 (by decide) rfl (fun _ => Nat.le_of_ble_eq_true rfl) (fun κ C Rr => imp_f_X12_readLine C  h Rr)
set_option maxHeartbeats 4000000 in
set_option maxRecDepth 100000 in
theorem imp_f_X12_town_L88 {κ : Kx (Int32 × CH)} (C : Cx κ cX12_town RX12 2 7 (40 * 7) [])   (k106 : CH → Option (Int32 × CH)) (hk106 : ∀ (h_15 : CH), Imp κ 106 [(0, .ref (kad κ 151))] [] h_15 (k106 h_15)) (Rr : Rt κ (some .int) (fun (q : Int32 × CH) (_ : Nat → Nat) => some (Value.int q.1)) (fun (q : (Int32 × CH)) => q.2)) : ∀ (n : Nat) (x1 : Int32) (h : CH), Imp κ 88 [(0, .ref (kad κ 151)), (1, .int (x1))] [] h (f_X12_town_L88 k106 n x1 h) := by
  intro n
  induction n with
  | zero => intros; exact imp_none
  | succ n ih =>
    intro x1 h
    rw [f_X12_town_L88]
    refine r_iload_n C 89 1 rfl dX12_town_88 rfl ?_
    refine r_iconst C 90 (nI 3) (by decide) dX12_town_89 rfl ?_
    refine r_icmp_ge C 93 106 dX12_town_90 (by decide) rfl (fun c_16 => ?_) (fun c_16 => ?_)
    · refine r_aload_n C 94 0 rfl dX12_town_93 rfl ?_
      refine r_getR C 97 dX12_town_94 flX12_116 kt_151 rfl rf_151_66 rfl ?_
      refine r_iload_n C 98 1 rfl dX12_town_97 rfl ?_
      refine r_iconst C 99 (-1) (by decide) dX12_town_98 rfl ?_
      refine r_iast C 100 dX12_town_99 kt_185 rfl rfl (fun h_17 => ?_)
      refine r_iinc C 103 1 (nI 1) [(1, .int (x1 + (nI 1))), (0, .ref (kad κ 151))] dX12_town_100 rfl (by decide) (by decide) rfl rfl ?_
      refine r_goto C 88 dX12_town_103 (by decide) ?_
      exact imp_sub [(0, .ref (kad κ 151)), (1, .int (x1 + (nI 1)))] [1, 0] rfl (ih (x1 + (nI 1)) h_17)
    · exact imp_sub [(0, .ref (kad κ 151))] [0] rfl (hk106 h)
set_option maxHeartbeats 4000000 in
set_option maxRecDepth 100000 in
theorem imp_f_X12_town_L23 {κ : Kx (Int32 × CH)} (C : Cx κ cX12_town RX12 2 7 (40 * 7) [])     (Rr : Rt κ (some .int) (fun (q : Int32 × CH) (_ : Nat → Nat) => some (Value.int q.1)) (fun (q : (Int32 × CH)) => q.2)) : ∀ (n : Nat)  (h : CH), Imp κ 23 [(0, .ref (kad κ 151))] [] h (f_X12_town_L23 n h) := by
  intro n
  induction n with
  | zero => intros; exact imp_none
  | succ n ih =>
    intro h
    rw [f_X12_town_L23]
    refine r_aload_n C 24 0 rfl dX12_town_23 rfl ?_
    refine r_cVpI C 27 [] (ok_f_X12_isGood h) dX12_town_24 lvX12_239 kt_151 rfl rfl rfl (by decide) (Nat.le_of_ble_eq_true rfl) rfl rfl (Nat.le_of_ble_eq_true rfl) rfl rfl (fun v_5 => ?_)
    refine imp_jn (fun (j_6 : Option (Int32 × CH)) =>  Imp κ 44 [(0, .ref (kad κ 151))] [] h (j_6)) ?_ ?_
    · refine r_aload_n C 45 0 rfl dX12_town_44 rfl ?_
      refine r_cVpI C 48 [] (ok_f_X12_isGood h) dX12_town_45 lvX12_239 kt_151 rfl rfl rfl (by decide) (Nat.le_of_ble_eq_true rfl) rfl rfl (Nat.le_of_ble_eq_true rfl) rfl rfl (fun v_7 => ?_)
      refine r_if_ne C 51 53 dX12_town_48 (by decide) rfl (fun c_8 => ?_) (fun c_8 => ?_)
      · refine r_iconst C 52 (-1) (by decide) dX12_town_51 rfl ?_
        exact r_iret C Rr dX12_town_52 (fun _ => rfl) rfl
      · refine r_aload_n C 54 0 rfl dX12_town_53 rfl ?_
        refine r_aload_n C 55 0 rfl dX12_town_54 rfl ?_
        refine r_getI C 58 dX12_town_55 flX12_263 kt_151 rfl rfl ?_
        refine r_putI C 61 dX12_town_58 flX12_269 kt_151 rfl rfl (fun h_9 => ?_)
        refine r_aload_n C 62 0 rfl dX12_town_61 rfl ?_
        refine r_iconst C 63 (nI 0) (by decide) dX12_town_62 rfl ?_
        refine r_putI C 66 dX12_town_63 flX12_275 kt_151 rfl rfl (fun h_10 => ?_)
        refine r_aload_n C 67 0 rfl dX12_town_66 rfl ?_
        refine r_iconst C 68 (nI 0) (by decide) dX12_town_67 rfl ?_
        refine r_putI C 71 dX12_town_68 flX12_278 kt_151 rfl rfl (fun h_11 => ?_)
        refine r_aload_n C 72 0 rfl dX12_town_71 rfl ?_
        refine r_iconst C 73 (nI 0) (by decide) dX12_town_72 rfl ?_
        refine r_putI C 76 dX12_town_73 flX12_281 kt_151 rfl rfl (fun h_12 => ?_)
        refine r_aload_n C 77 0 rfl dX12_town_76 rfl ?_
        refine r_iconst C 78 (nI 0) (by decide) dX12_town_77 rfl ?_
        refine r_putI C 81 dX12_town_78 flX12_284 kt_151 rfl rfl (fun h_13 => ?_)
        refine r_aload_n C 82 0 rfl dX12_town_81 rfl ?_
        refine r_iconst C 83 (nI 0) (by decide) dX12_town_82 rfl ?_
        refine r_putZ C 86 dX12_town_83 flX12_287 kt_151 rfl rfl (fun h_14 => ?_)
        refine r_iconst C 87 (nI 0) (by decide) dX12_town_86 rfl ?_
        refine r_istore_n C 88 1 [(1, .int ((nI 0))), (0, .ref (kad κ 151))] dX12_town_87 rfl (by decide) rfl rfl ?_
        refine imp_sub [(0, .ref (kad κ 151)), (1, .int ((nI 0)))] [1, 0] rfl ?_
        refine imp_f_X12_town_L88 C _ ?_ Rr FU ((nI 0)) h_14
        · intro h_15
          refine r_aload_n C 107 0 rfl dX12_town_106 rfl ?_
          refine r_getR C 110 dX12_town_107 flX12_24 kt_151 rfl rf_151_13 rfl ?_
          refine r_aload_n C 111 0 rfl dX12_town_110 rfl ?_
          refine r_getI C 114 dX12_town_111 flX12_269 kt_151 rfl rfl ?_
          refine r_iald C 115 dX12_town_114 kt_155 rfl rfl (fun v_18 => ?_)
          exact r_iret C Rr dX12_town_115 (fun _ => rfl) rfl
    · intro j_6 hj_6
      refine r_if_eq C 30 44 dX12_town_27 (by decide) rfl (fun c_19 => ?_) (fun c_19 => ?_)
      · exact imp_sub [(0, .ref (kad κ 151))] [0] rfl (hj_6)
      · refine r_aload_n C 31 0 rfl dX12_town_30 rfl ?_
        refine r_getI C 34 dX12_town_31 flX12_211 kt_151 rfl rfl ?_
        refine r_if_eq C 37 44 dX12_town_34 (by decide) rfl (fun c_20 => ?_) (fun c_20 => ?_)
        · exact imp_sub [(0, .ref (kad κ 151))] [0] rfl (hj_6)
        · refine r_aload_n C 38 0 rfl dX12_town_37 rfl ?_
          refine r_cViV C 41 [] (ok_f_X12_readLine h) dX12_town_38 lvX12_272 kt_151 rfl rfl rfl (by decide) (Nat.le_of_ble_eq_true rfl) rfl rfl (Nat.le_of_ble_eq_true rfl) rfl rfl (fun _ h_21 => ?_)
          refine r_goto C 23 dX12_town_41 (by decide) ?_
          exact imp_sub [(0, .ref (kad κ 151))] [0] rfl (ih h_21)
set_option maxHeartbeats 4000000 in
set_option maxRecDepth 100000 in
theorem imp_f_X12_town {κ : Kx (Int32 × CH)} (C : Cx κ cX12_town RX12 2 7 (40 * 7) [])   (h : CH) (Rr : Rt κ (some .int) (fun (q : Int32 × CH) (_ : Nat → Nat) => some (Value.int q.1)) (fun (q : (Int32 × CH)) => q.2)) : Imp κ 0 [(0, .ref (kad κ 151))] [] h (f_X12_town h) := by
  unfold f_X12_town
  refine r_aload_n C 1 0 rfl dX12_town_0 rfl ?_
  refine r_iconst C 2 (nI 0) (by decide) dX12_town_1 rfl ?_
  refine r_cViV C 5 [] (ok_f_X12_takeTape ((nI 0)) h) dX12_town_2 lvX12_266 kt_151 rfl rfl rfl (by decide) (Nat.le_of_ble_eq_true rfl) rfl rfl (Nat.le_of_ble_eq_true rfl) rfl rfl (fun _ h_1 => ?_)
  refine r_aload_n C 6 0 rfl dX12_town_5 rfl ?_
  refine r_iconst C 7 (nI 1) (by decide) dX12_town_6 rfl ?_
  refine r_aload_n C 8 0 rfl dX12_town_7 rfl ?_
  refine r_getI C 11 dX12_town_8 flX12_269 kt_151 rfl rfl ?_
  refine r_isub C 12 dX12_town_11 rfl ?_
  refine r_putI C 15 dX12_town_12 flX12_263 kt_151 rfl rfl (fun h_2 => ?_)
  refine r_aload_n C 16 0 rfl dX12_town_15 rfl ?_
  refine r_cViV C 19 [] (ok_f_X12_clearBank h_2) dX12_town_16 lvX12_140 kt_151 rfl rfl rfl (by decide) (Nat.le_of_ble_eq_true rfl) rfl rfl (Nat.le_of_ble_eq_true rfl) rfl rfl (fun _ h_3 => ?_)
  refine r_aload_n C 20 0 rfl dX12_town_19 rfl ?_
  refine r_cViV C 23 [] (ok_f_X12_goOn h_3) dX12_town_20 lvX12_243 kt_151 rfl rfl rfl (by decide) (Nat.le_of_ble_eq_true rfl) rfl rfl (Nat.le_of_ble_eq_true rfl) rfl rfl (fun _ h_4 => ?_)
  refine imp_sub [(0, .ref (kad κ 151))] [0] rfl ?_
  refine imp_f_X12_town_L23 C Rr FU h_4
set_option maxHeartbeats 4000000 in
theorem ok_f_X12_town   (h : CH) : ∀ q, f_X12_town h = some q → MG yX12_town cX12_town 2 (some .int) [] 7 (fun ad => [.ref (ad 151)]) h ((fun (q : Int32 × CH) (_ : Nat → Nat) => some (Value.int q.1)) q) ((fun (q : (Int32 × CH)) => q.2) q) := mg_of RX12 (by decide) rfl (fun _ => Nat.le_of_ble_eq_true rfl) (fun κ C Rr => imp_f_X12_town C  h Rr)
set_option maxHeartbeats 4000000 in
set_option maxRecDepth 100000 in
theorem imp_f_X12_fault {κ : Kx Int32} (C : Cx κ cX12_fault RX12 2 1 (40 * 1) []) (x1 : Int32)  (h : CH) (Rr : Rt κ (some .int) (fun (x : Int32) (_ : Nat → Nat) => some (Value.int x)) (fun (_ : Int32) => h)) : Imp κ 0 [(0, .ref (kad κ 151)), (1, .int (x1))] [] h (f_X12_fault x1 h) := by
  unfold f_X12_fault
  refine r_iload_n C 1 1 rfl dX12_fault_0 rfl ?_
  refine r_if_ne C 4 11 dX12_fault_1 (by decide) rfl (fun c_1 => ?_) (fun c_1 => ?_)
  · refine r_aload_n C 5 0 rfl dX12_fault_4 rfl ?_
    refine r_getI C 8 dX12_fault_5 flX12_146 kt_151 rfl rfl ?_
    refine r_goto C 24 dX12_fault_8 (by decide) ?_
    exact r_iret C Rr dX12_fault_24 (fun _ => rfl) rfl
  · refine r_iload_n C 12 1 rfl dX12_fault_11 rfl ?_
    refine r_iconst C 13 (nI 1) (by decide) dX12_fault_12 rfl ?_
    refine r_icmp_ne C 16 23 dX12_fault_13 (by decide) rfl (fun c_2 => ?_) (fun c_2 => ?_)
    · refine r_aload_n C 17 0 rfl dX12_fault_16 rfl ?_
      refine r_getI C 20 dX12_fault_17 flX12_16 kt_151 rfl rfl ?_
      refine r_goto C 24 dX12_fault_20 (by decide) ?_
      exact r_iret C Rr dX12_fault_24 (fun _ => rfl) rfl
    · refine r_iconst C 24 (-1) (by decide) dX12_fault_23 rfl ?_
      exact r_iret C Rr dX12_fault_24 (fun _ => rfl) rfl
set_option maxHeartbeats 4000000 in
theorem ok_f_X12_fault (x1 : Int32)  (h : CH) : ∀ q, f_X12_fault x1 h = some q → MG yX12_fault cX12_fault 2 (some .int) [] 1 (fun ad => [.ref (ad 151), .int x1]) h ((fun (x : Int32) (_ : Nat → Nat) => some (Value.int x)) q) ((fun (_ : Int32) => h) q) := mg_of RX12 (by decide) rfl (fun _ => Nat.le_of_ble_eq_true rfl) (fun κ C Rr => imp_f_X12_fault C x1 h Rr)
set_option maxHeartbeats 4000000 in
set_option maxRecDepth 100000 in
theorem imp_f_X12_pushE {κ : Kx (Unit × CH)} (C : Cx κ cX12_pushE RX12 3 1 (40 * 1) []) (x1 : Int32) (x2 : Int32)  (h : CH) (Rr : Rt κ none (fun (_ : Unit × CH) (_ : Nat → Nat) => (none : Option Value)) (fun (q : (Unit × CH)) => q.2)) : Imp κ 0 [(0, .ref (kad κ 151)), (1, .int (x1)), (2, .int (x2))] [] h (f_X12_pushE x1 x2 h) := by
  unfold f_X12_pushE
  refine r_aload_n C 1 0 rfl dX12_pushE_0 rfl ?_
  refine r_getR C 4 dX12_pushE_1 flX12_71 kt_151 rfl rf_151_30 rfl ?_
  refine r_aload_n C 5 0 rfl dX12_pushE_4 rfl ?_
  refine r_getI C 8 dX12_pushE_5 flX12_343 kt_151 rfl rfl ?_
  refine r_iload_n C 9 1 rfl dX12_pushE_8 rfl ?_
  refine r_iast C 10 dX12_pushE_9 kt_170 rfl rfl (fun h_1 => ?_)
  refine r_aload_n C 11 0 rfl dX12_pushE_10 rfl ?_
  refine r_getR C 14 dX12_pushE_11 flX12_74 kt_151 rfl rf_151_31 rfl ?_
  refine r_aload_n C 15 0 rfl dX12_pushE_14 rfl ?_
  refine r_getI C 18 dX12_pushE_15 flX12_343 kt_151 rfl rfl ?_
  refine r_iload_n C 19 2 rfl dX12_pushE_18 rfl ?_
  refine r_iast C 20 dX12_pushE_19 kt_171 rfl rfl (fun h_2 => ?_)
  refine r_aload_n C 21 0 rfl dX12_pushE_20 rfl ?_
  refine r_dup C 22 rfl dX12_pushE_21 rfl ?_
  refine r_getI C 25 dX12_pushE_22 flX12_343 kt_151 rfl rfl ?_
  refine r_iconst C 26 (nI 1) (by decide) dX12_pushE_25 rfl ?_
  refine r_iadd C 27 dX12_pushE_26 rfl ?_
  refine r_putI C 30 dX12_pushE_27 flX12_343 kt_151 rfl rfl (fun h_3 => ?_)
  exact r_vret C Rr dX12_pushE_30 (fun _ => rfl) rfl
set_option maxHeartbeats 4000000 in
theorem ok_f_X12_pushE (x1 : Int32) (x2 : Int32)  (h : CH) : ∀ q, f_X12_pushE x1 x2 h = some q → MG yX12_pushE cX12_pushE 3 none [] 1 (fun ad => [.ref (ad 151), .int x1, .int x2]) h ((fun (_ : Unit × CH) (_ : Nat → Nat) => (none : Option Value)) q) ((fun (q : (Unit × CH)) => q.2) q) := mg_of RX12 (by decide) rfl (fun _ => Nat.le_of_ble_eq_true rfl) (fun κ C Rr => imp_f_X12_pushE C x1 x2 h Rr)
set_option maxHeartbeats 4000000 in
set_option maxRecDepth 100000 in
theorem imp_f_X12_rankHere {κ : Kx Int32} (C : Cx κ cX12_rankHere RX12 1 3 (40 * 3) [])   (h : CH) (Rr : Rt κ (some .int) (fun (x : Int32) (_ : Nat → Nat) => some (Value.int x)) (fun (_ : Int32) => h)) : Imp κ 0 [(0, .ref (kad κ 151))] [] h (f_X12_rankHere h) := by
  unfold f_X12_rankHere
  refine r_aload_n C 1 0 rfl dX12_rankHere_0 rfl ?_
  refine r_ldc2 C 4 lcX12_191 dX12_rankHere_1 rfl ?_
  refine r_cVpI C 7 [] (ok_f_X12_isWord 6385252 h) dX12_rankHere_4 lvX12_249 kt_151 rfl rfl rfl (by decide) (Nat.le_of_ble_eq_true rfl) rfl rfl (Nat.le_of_ble_eq_true rfl) rfl rfl (fun v_1 => ?_)
  refine r_if_eq C 10 12 dX12_rankHere_7 (by decide) rfl (fun c_2 => ?_) (fun c_2 => ?_)
  · refine r_aload_n C 13 0 rfl dX12_rankHere_12 rfl ?_
    refine r_ldc2 C 16 lcX12_193 dX12_rankHere_13 rfl ?_
    refine r_cVpI C 19 [] (ok_f_X12_isWord 28530 h) dX12_rankHere_16 lvX12_249 kt_151 rfl rfl rfl (by decide) (Nat.le_of_ble_eq_true rfl) rfl rfl (Nat.le_of_ble_eq_true rfl) rfl rfl (fun v_3 => ?_)
    refine r_if_eq C 22 24 dX12_rankHere_19 (by decide) rfl (fun c_4 => ?_) (fun c_4 => ?_)
    · refine r_aload_n C 25 0 rfl dX12_rankHere_24 rfl ?_
      refine r_bipush C 27 (nI 60) (by decide) dX12_rankHere_25 rfl ?_
      refine r_cVpI C 30 [] (ok_f_X12_is ((nI 60)) h) dX12_rankHere_27 lvX12_302 kt_151 rfl rfl rfl (by decide) (Nat.le_of_ble_eq_true rfl) rfl rfl (Nat.le_of_ble_eq_true rfl) rfl rfl (fun v_5 => ?_)
      refine r_if_ne C 33 51 dX12_rankHere_30 (by decide) rfl (fun c_6 => ?_) (fun c_6 => ?_)
      · refine r_aload_n C 34 0 rfl dX12_rankHere_33 rfl ?_
        refine r_bipush C 36 (nI 62) (by decide) dX12_rankHere_34 rfl ?_
        refine r_cVpI C 39 [] (ok_f_X12_is ((nI 62)) h) dX12_rankHere_36 lvX12_302 kt_151 rfl rfl rfl (by decide) (Nat.le_of_ble_eq_true rfl) rfl rfl (Nat.le_of_ble_eq_true rfl) rfl rfl (fun v_7 => ?_)
        refine r_if_ne C 42 51 dX12_rankHere_39 (by decide) rfl (fun c_8 => ?_) (fun c_8 => ?_)
        · refine r_aload_n C 43 0 rfl dX12_rankHere_42 rfl ?_
          refine r_bipush C 45 (nI 61) (by decide) dX12_rankHere_43 rfl ?_
          refine r_cVpI C 48 [] (ok_f_X12_is ((nI 61)) h) dX12_rankHere_45 lvX12_302 kt_151 rfl rfl rfl (by decide) (Nat.le_of_ble_eq_true rfl) rfl rfl (Nat.le_of_ble_eq_true rfl) rfl rfl (fun v_9 => ?_)
          refine r_if_eq C 51 53 dX12_rankHere_48 (by decide) rfl (fun c_10 => ?_) (fun c_10 => ?_)
          · refine r_aload_n C 54 0 rfl dX12_rankHere_53 rfl ?_
            refine r_bipush C 56 (nI 43) (by decide) dX12_rankHere_54 rfl ?_
            refine r_cVpI C 59 [] (ok_f_X12_is ((nI 43)) h) dX12_rankHere_56 lvX12_302 kt_151 rfl rfl rfl (by decide) (Nat.le_of_ble_eq_true rfl) rfl rfl (Nat.le_of_ble_eq_true rfl) rfl rfl (fun v_11 => ?_)
            refine r_if_ne C 62 71 dX12_rankHere_59 (by decide) rfl (fun c_12 => ?_) (fun c_12 => ?_)
            · refine r_aload_n C 63 0 rfl dX12_rankHere_62 rfl ?_
              refine r_bipush C 65 (nI 45) (by decide) dX12_rankHere_63 rfl ?_
              refine r_cVpI C 68 [] (ok_f_X12_is ((nI 45)) h) dX12_rankHere_65 lvX12_302 kt_151 rfl rfl rfl (by decide) (Nat.le_of_ble_eq_true rfl) rfl rfl (Nat.le_of_ble_eq_true rfl) rfl rfl (fun v_13 => ?_)
              refine r_if_eq C 71 73 dX12_rankHere_68 (by decide) rfl (fun c_14 => ?_) (fun c_14 => ?_)
              · refine r_aload_n C 74 0 rfl dX12_rankHere_73 rfl ?_
                refine r_bipush C 76 (nI 42) (by decide) dX12_rankHere_74 rfl ?_
                refine r_cVpI C 79 [] (ok_f_X12_is ((nI 42)) h) dX12_rankHere_76 lvX12_302 kt_151 rfl rfl rfl (by decide) (Nat.le_of_ble_eq_true rfl) rfl rfl (Nat.le_of_ble_eq_true rfl) rfl rfl (fun v_15 => ?_)
                refine r_if_eq C 82 87 dX12_rankHere_79 (by decide) rfl (fun c_16 => ?_) (fun c_16 => ?_)
                · refine r_iconst C 88 (nI 0) (by decide) dX12_rankHere_87 rfl ?_
                  exact r_iret C Rr dX12_rankHere_88 (fun _ => rfl) rfl
                · refine r_bipush C 84 (nI 6) (by decide) dX12_rankHere_82 rfl ?_
                  refine r_goto C 88 dX12_rankHere_84 (by decide) ?_
                  exact r_iret C Rr dX12_rankHere_88 (fun _ => rfl) rfl
              · refine r_iconst C 72 (nI 5) (by decide) dX12_rankHere_71 rfl ?_
                exact r_iret C Rr dX12_rankHere_72 (fun _ => rfl) rfl
            · refine r_iconst C 72 (nI 5) (by decide) dX12_rankHere_71 rfl ?_
              exact r_iret C Rr dX12_rankHere_72 (fun _ => rfl) rfl
          · refine r_iconst C 52 (nI 4) (by decide) dX12_rankHere_51 rfl ?_
            exact r_iret C Rr dX12_rankHere_52 (fun _ => rfl) rfl
        · refine r_iconst C 52 (nI 4) (by decide) dX12_rankHere_51 rfl ?_
          exact r_iret C Rr dX12_rankHere_52 (fun _ => rfl) rfl
      · refine r_iconst C 52 (nI 4) (by decide) dX12_rankHere_51 rfl ?_
        exact r_iret C Rr dX12_rankHere_52 (fun _ => rfl) rfl
    · refine r_iconst C 23 (nI 1) (by decide) dX12_rankHere_22 rfl ?_
      exact r_iret C Rr dX12_rankHere_23 (fun _ => rfl) rfl
  · refine r_iconst C 11 (nI 2) (by decide) dX12_rankHere_10 rfl ?_
    exact r_iret C Rr dX12_rankHere_11 (fun _ => rfl) rfl
set_option maxHeartbeats 4000000 in
theorem ok_f_X12_rankHere   (h : CH) : ∀ q, f_X12_rankHere h = some q → MG yX12_rankHere cX12_rankHere 1 (some .int) [] 3 (fun ad => [.ref (ad 151)]) h ((fun (x : Int32) (_ : Nat → Nat) => some (Value.int x)) q) ((fun (_ : Int32) => h) q) := mg_of RX12 (by decide) rfl (fun _ => Nat.le_of_ble_eq_true rfl) (fun κ C Rr => imp_f_X12_rankHere C  h Rr)
set_option maxHeartbeats 4000000 in
set_option maxRecDepth 100000 in
theorem imp_f_X12_isCompared_L7 {κ : Kx Int32} (C : Cx κ cX12_isCompared RX12 2 1 (40 * 1) []) (h : CH)    (Rr : Rt κ (some .boolean) (fun (x : Int32) (_ : Nat → Nat) => some (Value.int x)) (fun (_ : Int32) => h)) : ∀ (n : Nat) (x1 : Int32), Imp κ 7 [(0, .ref (kad κ 151)), (1, .int (x1))] [] h (f_X12_isCompared_L7 h n x1) := by
  intro n
  induction n with
  | zero => intros; exact imp_none
  | succ n ih =>
    intro x1
    rw [f_X12_isCompared_L7]
    refine r_aload_n C 8 0 rfl dX12_isCompared_7 rfl ?_
    refine r_getR C 11 dX12_isCompared_8 flX12_71 kt_151 rfl rf_151_30 rfl ?_
    refine r_iload_n C 12 1 rfl dX12_isCompared_11 rfl ?_
    refine r_iald C 13 dX12_isCompared_12 kt_170 rfl rfl (fun v_1 => ?_)
    refine r_iconst C 14 (nI 5) (by decide) dX12_isCompared_13 rfl ?_
    refine imp_jn (fun (j_2 : Option Int32) =>  Imp κ 28 [(0, .ref (kad κ 151)), (1, .int (x1))] [] h (j_2)) ?_ ?_
    · refine r_iinc C 31 1 (-1) [(1, .int (x1 + (-1))), (0, .ref (kad κ 151))] dX12_isCompared_28 rfl (by decide) (by decide) rfl rfl ?_
      refine r_goto C 7 dX12_isCompared_31 (by decide) ?_
      exact imp_sub [(0, .ref (kad κ 151)), (1, .int (x1 + (-1)))] [1, 0] rfl (ih (x1 + (-1)))
    · intro j_2 hj_2
      refine r_icmp_eq C 17 28 dX12_isCompared_14 (by decide) rfl (fun c_3 => ?_) (fun c_3 => ?_)
      · exact imp_sub [(0, .ref (kad κ 151)), (1, .int (x1))] [0, 1] rfl (hj_2)
      · refine r_aload_n C 18 0 rfl dX12_isCompared_17 rfl ?_
        refine r_getR C 21 dX12_isCompared_18 flX12_71 kt_151 rfl rf_151_30 rfl ?_
        refine r_iload_n C 22 1 rfl dX12_isCompared_21 rfl ?_
        refine r_iald C 23 dX12_isCompared_22 kt_170 rfl rfl (fun v_4 => ?_)
        refine r_bipush C 25 (nI 6) (by decide) dX12_isCompared_23 rfl ?_
        refine r_icmp_ne C 28 34 dX12_isCompared_25 (by decide) rfl (fun c_5 => ?_) (fun c_5 => ?_)
        · exact imp_sub [(0, .ref (kad κ 151)), (1, .int (x1))] [0, 1] rfl (hj_2)
        · refine r_aload_n C 35 0 rfl dX12_isCompared_34 rfl ?_
          refine r_getR C 38 dX12_isCompared_35 flX12_71 kt_151 rfl rf_151_30 rfl ?_
          refine r_iload_n C 39 1 rfl dX12_isCompared_38 rfl ?_
          refine r_iald C 40 dX12_isCompared_39 kt_170 rfl rfl (fun v_6 => ?_)
          refine r_iconst C 41 (nI 4) (by decide) dX12_isCompared_40 rfl ?_
          refine r_icmp_ne C 44 48 dX12_isCompared_41 (by decide) rfl (fun c_7 => ?_) (fun c_7 => ?_)
          · refine r_iconst C 45 (nI 1) (by decide) dX12_isCompared_44 rfl ?_
            refine r_goto C 49 dX12_isCompared_45 (by decide) ?_
            exact r_zret C Rr (by decide) dX12_isCompared_49 (fun _ => rfl) rfl
          · refine r_iconst C 49 (nI 0) (by decide) dX12_isCompared_48 rfl ?_
            exact r_zret C Rr (by decide) dX12_isCompared_49 (fun _ => rfl) rfl
set_option maxHeartbeats 4000000 in
set_option maxRecDepth 100000 in
theorem imp_f_X12_isCompared {κ : Kx Int32} (C : Cx κ cX12_isCompared RX12 2 1 (40 * 1) [])   (h : CH) (Rr : Rt κ (some .boolean) (fun (x : Int32) (_ : Nat → Nat) => some (Value.int x)) (fun (_ : Int32) => h)) : Imp κ 0 [(0, .ref (kad κ 151))] [] h (f_X12_isCompared h) := by
  unfold f_X12_isCompared
  refine r_aload_n C 1 0 rfl dX12_isCompared_0 rfl ?_
  refine r_getI C 4 dX12_isCompared_1 flX12_343 kt_151 rfl rfl ?_
  refine r_iconst C 5 (nI 1) (by decide) dX12_isCompared_4 rfl ?_
  refine r_isub C 6 dX12_isCompared_5 rfl ?_
  refine r_istore_n C 7 1 [(1, .int ((h.1 151 39) - ((nI 1)))), (0, .ref (kad κ 151))] dX12_isCompared_6 rfl (by decide) rfl rfl ?_
  refine imp_sub [(0, .ref (kad κ 151)), (1, .int ((h.1 151 39) - ((nI 1))))] [1, 0] rfl ?_
  refine imp_f_X12_isCompared_L7 C h Rr FU ((h.1 151 39) - ((nI 1)))
set_option maxHeartbeats 4000000 in
theorem ok_f_X12_isCompared   (h : CH) : ∀ q, f_X12_isCompared h = some q → MG yX12_isCompared cX12_isCompared 2 (some .boolean) [] 1 (fun ad => [.ref (ad 151)]) h ((fun (x : Int32) (_ : Nat → Nat) => some (Value.int x)) q) ((fun (_ : Int32) => h) q) := mg_of RX12 (by decide) rfl (fun _ => Nat.le_of_ble_eq_true rfl) (fun κ C Rr => imp_f_X12_isCompared C  h Rr)
set_option maxHeartbeats 4000000 in
set_option maxRecDepth 100000 in
theorem imp_f_X12_emit {κ : Kx (Unit × CH)} (C : Cx κ cX12_emit RX12 3 1 (40 * 1) []) (x1 : Int32) (x2 : Int32)  (h : CH) (Rr : Rt κ none (fun (_ : Unit × CH) (_ : Nat → Nat) => (none : Option Value)) (fun (q : (Unit × CH)) => q.2)) : Imp κ 0 [(0, .ref (kad κ 151)), (1, .int (x1)), (2, .int (x2))] [] h (f_X12_emit x1 x2 h) := by
  unfold f_X12_emit
  refine r_aload_n C 1 0 rfl dX12_emit_0 rfl ?_
  refine r_getR C 4 dX12_emit_1 flX12_65 kt_151 rfl rf_151_28 rfl ?_
  refine r_aload_n C 5 0 rfl dX12_emit_4 rfl ?_
  refine r_getI C 8 dX12_emit_5 flX12_316 kt_151 rfl rfl ?_
  refine r_iload_n C 9 1 rfl dX12_emit_8 rfl ?_
  refine r_iast C 10 dX12_emit_9 kt_168 rfl rfl (fun h_1 => ?_)
  refine r_aload_n C 11 0 rfl dX12_emit_10 rfl ?_
  refine r_getR C 14 dX12_emit_11 flX12_68 kt_151 rfl rf_151_29 rfl ?_
  refine r_aload_n C 15 0 rfl dX12_emit_14 rfl ?_
  refine r_getI C 18 dX12_emit_15 flX12_316 kt_151 rfl rfl ?_
  refine r_iload_n C 19 2 rfl dX12_emit_18 rfl ?_
  refine r_iast C 20 dX12_emit_19 kt_169 rfl rfl (fun h_2 => ?_)
  refine r_aload_n C 21 0 rfl dX12_emit_20 rfl ?_
  refine r_dup C 22 rfl dX12_emit_21 rfl ?_
  refine r_getI C 25 dX12_emit_22 flX12_316 kt_151 rfl rfl ?_
  refine r_iconst C 26 (nI 1) (by decide) dX12_emit_25 rfl ?_
  refine r_iadd C 27 dX12_emit_26 rfl ?_
  refine r_putI C 30 dX12_emit_27 flX12_316 kt_151 rfl rfl (fun h_3 => ?_)
  exact r_vret C Rr dX12_emit_30 (fun _ => rfl) rfl
set_option maxHeartbeats 4000000 in
theorem ok_f_X12_emit (x1 : Int32) (x2 : Int32)  (h : CH) : ∀ q, f_X12_emit x1 x2 h = some q → MG yX12_emit cX12_emit 3 none [] 1 (fun ad => [.ref (ad 151), .int x1, .int x2]) h ((fun (_ : Unit × CH) (_ : Nat → Nat) => (none : Option Value)) q) ((fun (q : (Unit × CH)) => q.2) q) := mg_of RX12 (by decide) rfl (fun _ => Nat.le_of_ble_eq_true rfl) (fun κ C Rr => imp_f_X12_emit C x1 x2 h Rr)
set_option maxHeartbeats 4000000 in
set_option maxRecDepth 100000 in
theorem imp_f_X12_behindUnit_L23 {κ : Kx (Int32 × CH)} (C : Cx κ cX12_behindUnit RX12 2 4 (40 * 4) []) (x1 : Int32)    (Rr : Rt κ (some .boolean) (fun (q : Int32 × CH) (_ : Nat → Nat) => some (Value.int q.1)) (fun (q : (Int32 × CH)) => q.2)) : ∀ (n : Nat)  (h : CH), Imp κ 23 [(0, .ref (kad κ 151)), (1, .int (x1))] [] h (f_X12_behindUnit_L23 x1 n h) := by
  intro n
  induction n with
  | zero => intros; exact imp_none
  | succ n ih =>
    intro h
    rw [f_X12_behindUnit_L23]
    refine r_aload_n C 24 0 rfl dX12_behindUnit_23 rfl ?_
    refine r_getR C 27 dX12_behindUnit_24 flX12_71 kt_151 rfl rf_151_30 rfl ?_
    refine r_aload_n C 28 0 rfl dX12_behindUnit_27 rfl ?_
    refine r_getI C 31 dX12_behindUnit_28 flX12_343 kt_151 rfl rfl ?_
    refine r_iconst C 32 (nI 1) (by decide) dX12_behindUnit_31 rfl ?_
    refine r_isub C 33 dX12_behindUnit_32 rfl ?_
    refine r_iald C 34 dX12_behindUnit_33 kt_170 rfl rfl (fun v_5 => ?_)
    refine r_bipush C 36 (nI 6) (by decide) dX12_behindUnit_34 rfl ?_
    refine imp_jn (fun (j_6 : Option (Int32 × CH)) =>  Imp κ 104 [(0, .ref (kad κ 151)), (1, .int (x1))] [] h (j_6)) ?_ ?_
    · refine r_iload_n C 105 1 rfl dX12_behindUnit_104 rfl ?_
      refine r_if_le C 108 147 dX12_behindUnit_105 (by decide) rfl (fun c_7 => ?_) (fun c_7 => ?_)
      · refine r_aload_n C 109 0 rfl dX12_behindUnit_108 rfl ?_
        refine r_iload_n C 110 1 rfl dX12_behindUnit_109 rfl ?_
        refine r_iload_n C 111 1 rfl dX12_behindUnit_110 rfl ?_
        refine r_iconst C 112 (nI 2) (by decide) dX12_behindUnit_111 rfl ?_
        refine imp_jn (fun (j_10 : Int32 → Int32 → Option (Int32 × CH)) => ∀ (s_8 : Int32) (s_9 : Int32), Imp κ 138 [(0, .ref (kad κ 151))] [.int (s_8), .int (s_9), .ref (kad κ 151)] h (j_10 s_8 s_9)) ?_ ?_
        · intro s_8 s_9
          refine r_cViV C 141 [] (ok_f_X12_pushE s_9 s_8 h) dX12_behindUnit_138 lvX12_349 kt_151 rfl rfl rfl (by decide) (Nat.le_of_ble_eq_true rfl) rfl rfl (Nat.le_of_ble_eq_true rfl) rfl rfl (fun _ h_11 => ?_)
          refine r_aload_n C 142 0 rfl dX12_behindUnit_141 rfl ?_
          refine r_cViV C 145 [] (ok_f_X12_goOn h_11) dX12_behindUnit_142 lvX12_243 kt_151 rfl rfl rfl (by decide) (Nat.le_of_ble_eq_true rfl) rfl rfl (Nat.le_of_ble_eq_true rfl) rfl rfl (fun _ h_12 => ?_)
          refine r_iconst C 146 (nI 1) (by decide) dX12_behindUnit_145 rfl ?_
          exact r_zret C Rr (by decide) dX12_behindUnit_146 (fun _ => rfl) rfl
        · intro j_10 hj_10
          refine r_icmp_ne C 115 120 dX12_behindUnit_112 (by decide) rfl (fun c_13 => ?_) (fun c_13 => ?_)
          · refine r_bipush C 117 (nI 38) (by decide) dX12_behindUnit_115 rfl ?_
            refine r_goto C 138 dX12_behindUnit_117 (by decide) ?_
            exact imp_sub [(0, .ref (kad κ 151))] [0] rfl (hj_10 ((nI 38)) (x1))
          · refine r_iload_n C 121 1 rfl dX12_behindUnit_120 rfl ?_
            refine r_iconst C 122 (nI 1) (by decide) dX12_behindUnit_121 rfl ?_
            refine r_icmp_ne C 125 130 dX12_behindUnit_122 (by decide) rfl (fun c_14 => ?_) (fun c_14 => ?_)
            · refine r_bipush C 127 (nI 124) (by decide) dX12_behindUnit_125 rfl ?_
              refine r_goto C 138 dX12_behindUnit_127 (by decide) ?_
              exact imp_sub [(0, .ref (kad κ 151))] [0] rfl (hj_10 ((nI 124)) (x1))
            · refine r_aload_n C 131 0 rfl dX12_behindUnit_130 rfl ?_
              refine r_aload_n C 132 0 rfl dX12_behindUnit_131 rfl ?_
              refine r_getI C 135 dX12_behindUnit_132 flX12_204 kt_151 rfl rfl ?_
              refine r_cVpI C 138 [.int (x1), .ref (kad κ 151)] (ok_f_X12_sign (h.1 151 6) h) dX12_behindUnit_135 lvX12_207 kt_151 rfl rfl rfl (by decide) (Nat.le_of_ble_eq_true rfl) rfl rfl (Nat.le_of_ble_eq_true rfl) rfl rfl (fun v_15 => ?_)
              exact imp_sub [(0, .ref (kad κ 151))] [0] rfl (hj_10 (v_15) (x1))
      · refine r_aload_n C 148 0 rfl dX12_behindUnit_147 rfl ?_
        refine r_dup C 149 rfl dX12_behindUnit_148 rfl ?_
        refine r_getI C 152 dX12_behindUnit_149 flX12_343 kt_151 rfl rfl ?_
        refine r_iconst C 153 (nI 1) (by decide) dX12_behindUnit_152 rfl ?_
        refine r_isub C 154 dX12_behindUnit_153 rfl ?_
        refine r_putI C 157 dX12_behindUnit_154 flX12_343 kt_151 rfl rfl (fun h_16 => ?_)
        refine r_aload_n C 158 0 rfl dX12_behindUnit_157 rfl ?_
        refine r_getR C 161 dX12_behindUnit_158 flX12_71 kt_151 rfl rf_151_30 rfl ?_
        refine r_aload_n C 162 0 rfl dX12_behindUnit_161 rfl ?_
        refine r_getI C 165 dX12_behindUnit_162 flX12_343 kt_151 rfl rfl ?_
        refine r_iald C 166 dX12_behindUnit_165 kt_170 rfl rfl (fun v_17 => ?_)
        refine r_bipush C 168 (nI 7) (by decide) dX12_behindUnit_166 rfl ?_
        refine r_icmp_ne C 171 191 dX12_behindUnit_168 (by decide) rfl (fun c_18 => ?_) (fun c_18 => ?_)
        · refine r_aload_n C 172 0 rfl dX12_behindUnit_171 rfl ?_
          refine r_dup C 173 rfl dX12_behindUnit_172 rfl ?_
          refine r_getI C 176 dX12_behindUnit_173 flX12_346 kt_151 rfl rfl ?_
          refine r_iconst C 177 (nI 1) (by decide) dX12_behindUnit_176 rfl ?_
          refine r_isub C 178 dX12_behindUnit_177 rfl ?_
          refine r_putI C 181 dX12_behindUnit_178 flX12_346 kt_151 rfl rfl (fun h_19 => ?_)
          refine r_aload_n C 182 0 rfl dX12_behindUnit_181 rfl ?_
          refine r_aload_n C 183 0 rfl dX12_behindUnit_182 rfl ?_
          refine r_bipush C 185 (nI 41) (by decide) dX12_behindUnit_183 rfl ?_
          refine r_cVpI C 188 [.ref (kad κ 151)] (ok_f_X12_is ((nI 41)) h_19) dX12_behindUnit_185 lvX12_302 kt_151 rfl rfl rfl (by decide) (Nat.le_of_ble_eq_true rfl) rfl rfl (Nat.le_of_ble_eq_true rfl) rfl rfl (fun v_20 => ?_)
          refine r_cViV C 191 [] (ok_f_X12_must v_20 h_19) dX12_behindUnit_188 lvX12_252 kt_151 rfl rfl rfl (by decide) (Nat.le_of_ble_eq_true rfl) rfl rfl (Nat.le_of_ble_eq_true rfl) rfl rfl (fun _ h_21 => ?_)
          refine r_iconst C 192 (nI 0) (by decide) dX12_behindUnit_191 rfl ?_
          exact r_zret C Rr (by decide) dX12_behindUnit_192 (fun _ => rfl) rfl
        · refine r_iconst C 192 (nI 0) (by decide) dX12_behindUnit_191 rfl ?_
          exact r_zret C Rr (by decide) dX12_behindUnit_192 (fun _ => rfl) rfl
    · intro j_6 hj_6
      refine r_icmp_gt C 39 104 dX12_behindUnit_36 (by decide) rfl (fun c_22 => ?_) (fun c_22 => ?_)
      · exact imp_sub [(0, .ref (kad κ 151)), (1, .int (x1))] [0, 1] rfl (hj_6)
      · refine r_aload_n C 40 0 rfl dX12_behindUnit_39 rfl ?_
        refine r_getR C 43 dX12_behindUnit_40 flX12_71 kt_151 rfl rf_151_30 rfl ?_
        refine r_aload_n C 44 0 rfl dX12_behindUnit_43 rfl ?_
        refine r_getI C 47 dX12_behindUnit_44 flX12_343 kt_151 rfl rfl ?_
        refine r_iconst C 48 (nI 1) (by decide) dX12_behindUnit_47 rfl ?_
        refine r_isub C 49 dX12_behindUnit_48 rfl ?_
        refine r_iald C 50 dX12_behindUnit_49 kt_170 rfl rfl (fun v_23 => ?_)
        refine r_iload_n C 51 1 rfl dX12_behindUnit_50 rfl ?_
        refine r_icmp_lt C 54 104 dX12_behindUnit_51 (by decide) rfl (fun c_24 => ?_) (fun c_24 => ?_)
        · exact imp_sub [(0, .ref (kad κ 151)), (1, .int (x1))] [0, 1] rfl (hj_6)
        · refine r_aload_n C 55 0 rfl dX12_behindUnit_54 rfl ?_
          refine r_dup C 56 rfl dX12_behindUnit_55 rfl ?_
          refine r_getI C 59 dX12_behindUnit_56 flX12_343 kt_151 rfl rfl ?_
          refine r_iconst C 60 (nI 1) (by decide) dX12_behindUnit_59 rfl ?_
          refine r_isub C 61 dX12_behindUnit_60 rfl ?_
          refine r_putI C 64 dX12_behindUnit_61 flX12_343 kt_151 rfl rfl (fun h_25 => ?_)
          refine r_aload_n C 65 0 rfl dX12_behindUnit_64 rfl ?_
          refine r_getR C 68 dX12_behindUnit_65 flX12_71 kt_151 rfl rf_151_30 rfl ?_
          refine r_aload_n C 69 0 rfl dX12_behindUnit_68 rfl ?_
          refine r_getI C 72 dX12_behindUnit_69 flX12_343 kt_151 rfl rfl ?_
          refine r_iald C 73 dX12_behindUnit_72 kt_170 rfl rfl (fun v_26 => ?_)
          refine r_iconst C 74 (nI 3) (by decide) dX12_behindUnit_73 rfl ?_
          refine imp_jn (fun (j_28 : CH → Option (Int32 × CH)) => ∀ (h_27 : CH), Imp κ 87 [(0, .ref (kad κ 151)), (1, .int (x1))] [] h_27 (j_28 h_27)) ?_ ?_
          · intro h_27
            refine r_aload_n C 88 0 rfl dX12_behindUnit_87 rfl ?_
            refine r_aload_n C 89 0 rfl dX12_behindUnit_88 rfl ?_
            refine r_getR C 92 dX12_behindUnit_89 flX12_74 kt_151 rfl rf_151_31 rfl ?_
            refine r_aload_n C 93 0 rfl dX12_behindUnit_92 rfl ?_
            refine r_getI C 96 dX12_behindUnit_93 flX12_343 kt_151 rfl rfl ?_
            refine r_iald C 97 dX12_behindUnit_96 kt_171 rfl rfl (fun v_29 => ?_)
            refine r_iconst C 98 (nI 0) (by decide) dX12_behindUnit_97 rfl ?_
            refine r_cViV C 101 [] (ok_f_X12_emit v_29 ((nI 0)) h_27) dX12_behindUnit_98 lvX12_361 kt_151 rfl rfl rfl (by decide) (Nat.le_of_ble_eq_true rfl) rfl rfl (Nat.le_of_ble_eq_true rfl) rfl rfl (fun _ h_30 => ?_)
            refine r_goto C 23 dX12_behindUnit_101 (by decide) ?_
            exact imp_sub [(0, .ref (kad κ 151)), (1, .int (x1))] [0, 1] rfl (ih h_30)
          · intro j_28 hj_28
            refine r_icmp_ne C 77 87 dX12_behindUnit_74 (by decide) rfl (fun c_31 => ?_) (fun c_31 => ?_)
            · refine r_aload_n C 78 0 rfl dX12_behindUnit_77 rfl ?_
              refine r_dup C 79 rfl dX12_behindUnit_78 rfl ?_
              refine r_getI C 82 dX12_behindUnit_79 flX12_346 kt_151 rfl rfl ?_
              refine r_iconst C 83 (nI 1) (by decide) dX12_behindUnit_82 rfl ?_
              refine r_isub C 84 dX12_behindUnit_83 rfl ?_
              refine r_putI C 87 dX12_behindUnit_84 flX12_346 kt_151 rfl rfl (fun h_32 => ?_)
              exact imp_sub [(0, .ref (kad κ 151)), (1, .int (x1))] [0, 1] rfl (hj_28 h_32)
            · exact imp_sub [(0, .ref (kad κ 151)), (1, .int (x1))] [0, 1] rfl (hj_28 h_25)
set_option maxHeartbeats 4000000 in
set_option maxRecDepth 100000 in
theorem imp_f_X12_behindUnit {κ : Kx (Int32 × CH)} (C : Cx κ cX12_behindUnit RX12 2 4 (40 * 4) [])   (h : CH) (Rr : Rt κ (some .boolean) (fun (q : Int32 × CH) (_ : Nat → Nat) => some (Value.int q.1)) (fun (q : (Int32 × CH)) => q.2)) : Imp κ 0 [(0, .ref (kad κ 151))] [] h (f_X12_behindUnit h) := by
  unfold f_X12_behindUnit
  refine r_aload_n C 1 0 rfl dX12_behindUnit_0 rfl ?_
  refine r_cVpI C 4 [] (ok_f_X12_rankHere h) dX12_behindUnit_1 lvX12_364 kt_151 rfl rfl rfl (by decide) (Nat.le_of_ble_eq_true rfl) rfl rfl (Nat.le_of_ble_eq_true rfl) rfl rfl (fun v_1 => ?_)
  refine r_istore_n C 5 1 [(1, .int (v_1)), (0, .ref (kad κ 151))] dX12_behindUnit_4 rfl (by decide) rfl rfl ?_
  refine r_iload_n C 6 0 rfl dX12_behindUnit_5 rfl ?_
  refine r_iconst C 7 (nI 4) (by decide) dX12_behindUnit_6 rfl ?_
  refine r_icmp_ne C 10 23 dX12_behindUnit_7 (by decide) rfl (fun c_2 => ?_) (fun c_2 => ?_)
  · refine r_aload_n C 11 1 rfl dX12_behindUnit_10 rfl ?_
    refine r_cVpI C 14 [] (ok_f_X12_isCompared h) dX12_behindUnit_11 lvX12_367 kt_151 rfl rfl rfl (by decide) (Nat.le_of_ble_eq_true rfl) rfl rfl (Nat.le_of_ble_eq_true rfl) rfl rfl (fun v_3 => ?_)
    refine r_if_eq C 17 23 dX12_behindUnit_14 (by decide) rfl (fun c_4 => ?_) (fun c_4 => ?_)
    · refine imp_sub [(0, .ref (kad κ 151)), (1, .int (v_1))] [1, 0] rfl ?_
      refine imp_f_X12_behindUnit_L23 C (v_1) Rr FU h
    · refine r_aload_n C 18 1 rfl dX12_behindUnit_17 rfl ?_
      refine r_cViV C 21 [] (ok_f_X12_misplaced h) dX12_behindUnit_18 lvX12_246 kt_151 rfl rfl rfl (by decide) (Nat.le_of_ble_eq_true rfl) rfl rfl (Nat.le_of_ble_eq_true rfl) rfl rfl (fun _ h_33 => ?_)
      refine r_iconst C 22 (nI 1) (by decide) dX12_behindUnit_21 rfl ?_
      exact r_zret C Rr (by decide) dX12_behindUnit_22 (fun _ => rfl) rfl
  · refine imp_sub [(0, .ref (kad κ 151)), (1, .int (v_1))] [1, 0] rfl ?_
    refine imp_f_X12_behindUnit_L23 C (v_1) Rr FU h
set_option maxHeartbeats 4000000 in
theorem ok_f_X12_behindUnit   (h : CH) : ∀ q, f_X12_behindUnit h = some q → MG yX12_behindUnit cX12_behindUnit 2 (some .boolean) [] 4 (fun ad => [.ref (ad 151)]) h ((fun (q : Int32 × CH) (_ : Nat → Nat) => some (Value.int q.1)) q) ((fun (q : (Int32 × CH)) => q.2) q) := mg_of RX12 (by decide) rfl (fun _ => Nat.le_of_ble_eq_true rfl) (fun κ C Rr => imp_f_X12_behindUnit C  h Rr)
set_option maxHeartbeats 4000000 in
set_option maxRecDepth 100000 in
theorem imp_f_X12_wordHere {κ : Kx Int32} (C : Cx κ cX12_wordHere RX12 1 2 (40 * 2) [])   (h : CH) (Rr : Rt κ (some .int) (fun (x : Int32) (_ : Nat → Nat) => some (Value.int x)) (fun (_ : Int32) => h)) : Imp κ 0 [(0, .ref (kad κ 151))] [] h (f_X12_wordHere h) := by
  unfold f_X12_wordHere
  refine r_aload_n C 1 0 rfl dX12_wordHere_0 rfl ?_
  refine r_getI C 4 dX12_wordHere_1 flX12_337 kt_151 rfl rfl ?_
  refine r_if_eq C 7 69 dX12_wordHere_4 (by decide) rfl (fun c_1 => ?_) (fun c_1 => ?_)
  · refine r_aload_n C 70 0 rfl dX12_wordHere_69 rfl ?_
    refine r_ldc2 C 73 lcX12_181 dX12_wordHere_70 rfl ?_
    refine r_cVpI C 76 [] (ok_f_X12_isWord 7566701 h) dX12_wordHere_73 lvX12_249 kt_151 rfl rfl rfl (by decide) (Nat.le_of_ble_eq_true rfl) rfl rfl (Nat.le_of_ble_eq_true rfl) rfl rfl (fun v_2 => ?_)
    refine r_if_eq C 79 82 dX12_wordHere_76 (by decide) rfl (fun c_3 => ?_) (fun c_3 => ?_)
    · refine r_aload_n C 83 0 rfl dX12_wordHere_82 rfl ?_
      refine r_ldc2 C 86 lcX12_183 dX12_wordHere_83 rfl ?_
      refine r_cVpI C 89 [] (ok_f_X12_isWord 1701078885 h) dX12_wordHere_86 lvX12_249 kt_151 rfl rfl rfl (by decide) (Nat.le_of_ble_eq_true rfl) rfl rfl (Nat.le_of_ble_eq_true rfl) rfl rfl (fun v_4 => ?_)
      refine r_if_eq C 92 95 dX12_wordHere_89 (by decide) rfl (fun c_5 => ?_) (fun c_5 => ?_)
      · refine r_aload_n C 96 0 rfl dX12_wordHere_95 rfl ?_
        refine r_ldc2 C 99 lcX12_185 dX12_wordHere_96 rfl ?_
        refine r_cVpI C 102 [] (ok_f_X12_isWord 1836020596 h) dX12_wordHere_99 lvX12_249 kt_151 rfl rfl rfl (by decide) (Nat.le_of_ble_eq_true rfl) rfl rfl (Nat.le_of_ble_eq_true rfl) rfl rfl (fun v_6 => ?_)
        refine r_if_eq C 105 108 dX12_wordHere_102 (by decide) rfl (fun c_7 => ?_) (fun c_7 => ?_)
        · refine r_aload_n C 109 0 rfl dX12_wordHere_108 rfl ?_
          refine r_ldc2 C 112 lcX12_187 dX12_wordHere_109 rfl ?_
          refine r_cVpI C 115 [] (ok_f_X12_isWord 465557353332 h) dX12_wordHere_112 lvX12_249 kt_151 rfl rfl rfl (by decide) (Nat.le_of_ble_eq_true rfl) rfl rfl (Nat.le_of_ble_eq_true rfl) rfl rfl (fun v_8 => ?_)
          refine r_if_eq C 118 121 dX12_wordHere_115 (by decide) rfl (fun c_9 => ?_) (fun c_9 => ?_)
          · refine r_aload_n C 122 0 rfl dX12_wordHere_121 rfl ?_
            refine r_ldc2 C 125 lcX12_189 dX12_wordHere_122 rfl ?_
            refine r_cVpI C 128 [] (ok_f_X12_isWord 24948 h) dX12_wordHere_125 lvX12_249 kt_151 rfl rfl rfl (by decide) (Nat.le_of_ble_eq_true rfl) rfl rfl (Nat.le_of_ble_eq_true rfl) rfl rfl (fun v_10 => ?_)
            refine r_if_eq C 131 136 dX12_wordHere_128 (by decide) rfl (fun c_11 => ?_) (fun c_11 => ?_)
            · refine r_iconst C 137 (nI 0) (by decide) dX12_wordHere_136 rfl ?_
              exact r_iret C Rr dX12_wordHere_137 (fun _ => rfl) rfl
            · refine r_bipush C 133 (nI 97) (by decide) dX12_wordHere_131 rfl ?_
              refine r_goto C 137 dX12_wordHere_133 (by decide) ?_
              exact r_iret C Rr dX12_wordHere_137 (fun _ => rfl) rfl
          · refine r_bipush C 120 (nI 113) (by decide) dX12_wordHere_118 rfl ?_
            exact r_iret C Rr dX12_wordHere_120 (fun _ => rfl) rfl
        · refine r_bipush C 107 (nI 109) (by decide) dX12_wordHere_105 rfl ?_
          exact r_iret C Rr dX12_wordHere_107 (fun _ => rfl) rfl
      · refine r_bipush C 94 (nI 101) (by decide) dX12_wordHere_92 rfl ?_
        exact r_iret C Rr dX12_wordHere_94 (fun _ => rfl) rfl
    · refine r_bipush C 81 (nI 115) (by decide) dX12_wordHere_79 rfl ?_
      exact r_iret C Rr dX12_wordHere_81 (fun _ => rfl) rfl
  · refine r_aload_n C 8 0 rfl dX12_wordHere_7 rfl ?_
    refine r_ldc2 C 11 lcX12_175 dX12_wordHere_8 rfl ?_
    refine r_cVpI C 14 [] (ok_f_X12_isWord 6709618 h) dX12_wordHere_11 lvX12_249 kt_151 rfl rfl rfl (by decide) (Nat.le_of_ble_eq_true rfl) rfl rfl (Nat.le_of_ble_eq_true rfl) rfl rfl (fun v_12 => ?_)
    refine r_if_eq C 17 22 dX12_wordHere_14 (by decide) rfl (fun c_13 => ?_) (fun c_13 => ?_)
    · refine r_aload_n C 23 0 rfl dX12_wordHere_22 rfl ?_
      refine r_ldc2 C 26 lcX12_153 dX12_wordHere_23 rfl ?_
      refine r_cVpI C 29 [] (ok_f_X12_isWord 1802071652 h) dX12_wordHere_26 lvX12_249 kt_151 rfl rfl rfl (by decide) (Nat.le_of_ble_eq_true rfl) rfl rfl (Nat.le_of_ble_eq_true rfl) rfl rfl (fun v_14 => ?_)
      refine r_if_eq C 32 37 dX12_wordHere_29 (by decide) rfl (fun c_15 => ?_) (fun c_15 => ?_)
      · refine r_aload_n C 38 0 rfl dX12_wordHere_37 rfl ?_
        refine r_ldc2 C 41 lcX12_177 dX12_wordHere_38 rfl ?_
        refine r_cVpI C 44 [] (ok_f_X12_isWord 521391927923 h) dX12_wordHere_41 lvX12_249 kt_151 rfl rfl rfl (by decide) (Nat.le_of_ble_eq_true rfl) rfl rfl (Nat.le_of_ble_eq_true rfl) rfl rfl (fun v_16 => ?_)
        refine r_if_eq C 47 52 dX12_wordHere_44 (by decide) rfl (fun c_17 => ?_) (fun c_17 => ?_)
        · refine r_aload_n C 53 0 rfl dX12_wordHere_52 rfl ?_
          refine r_ldc2 C 56 lcX12_179 dX12_wordHere_53 rfl ?_
          refine r_cVpI C 59 [] (ok_f_X12_isWord 465624852596 h) dX12_wordHere_56 lvX12_249 kt_151 rfl rfl rfl (by decide) (Nat.le_of_ble_eq_true rfl) rfl rfl (Nat.le_of_ble_eq_true rfl) rfl rfl (fun v_18 => ?_)
          refine r_if_eq C 62 67 dX12_wordHere_59 (by decide) rfl (fun c_19 => ?_) (fun c_19 => ?_)
          · refine r_iconst C 68 (nI 0) (by decide) dX12_wordHere_67 rfl ?_
            exact r_iret C Rr dX12_wordHere_68 (fun _ => rfl) rfl
          · refine r_bipush C 64 (nI 108) (by decide) dX12_wordHere_62 rfl ?_
            refine r_goto C 68 dX12_wordHere_64 (by decide) ?_
            exact r_iret C Rr dX12_wordHere_68 (fun _ => rfl) rfl
        · refine r_bipush C 49 (nI 121) (by decide) dX12_wordHere_47 rfl ?_
          refine r_goto C 68 dX12_wordHere_49 (by decide) ?_
          exact r_iret C Rr dX12_wordHere_68 (fun _ => rfl) rfl
      · refine r_bipush C 34 (nI 107) (by decide) dX12_wordHere_32 rfl ?_
        refine r_goto C 68 dX12_wordHere_34 (by decide) ?_
        exact r_iret C Rr dX12_wordHere_68 (fun _ => rfl) rfl
    · refine r_bipush C 19 (nI 102) (by decide) dX12_wordHere_17 rfl ?_
      refine r_goto C 68 dX12_wordHere_19 (by decide) ?_
      exact r_iret C Rr dX12_wordHere_68 (fun _ => rfl) rfl
set_option maxHeartbeats 4000000 in
theorem ok_f_X12_wordHere   (h : CH) : ∀ q, f_X12_wordHere h = some q → MG yX12_wordHere cX12_wordHere 1 (some .int) [] 2 (fun ad => [.ref (ad 151)]) h ((fun (x : Int32) (_ : Nat → Nat) => some (Value.int x)) q) ((fun (_ : Int32) => h) q) := mg_of RX12 (by decide) rfl (fun _ => Nat.le_of_ble_eq_true rfl) (fun κ C Rr => imp_f_X12_wordHere C  h Rr)
