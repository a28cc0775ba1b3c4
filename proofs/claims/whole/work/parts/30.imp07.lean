/-! the methods do what the functions say, by program -/
set_option maxHeartbeats 4000000 in
set_option maxRecDepth 100000 in
theorem imp_f_X12_unit {κ : Kx (Int32 × CH)} (C : Cx κ cX12_unit RX12 6 4 (40 * 4) [])   (h : CH) (Rr : Rt κ (some .boolean) (fun (q : Int32 × CH) (_ : Nat → Nat) => some (Value.int q.1)) (fun (q : (Int32 × CH)) => q.2)) : Imp κ 0 [(0, .ref (kad κ 151))] [] h (f_X12_unit h) := by
  unfold f_X12_unit
  refine r_aload_n C 1 0 rfl dX12_unit_0 rfl ?_
  refine r_getR C 4 dX12_unit_1 flX12_71 kt_151 rfl rf_151_30 rfl ?_
  refine r_aload_n C 5 0 rfl dX12_unit_4 rfl ?_
  refine r_getI C 8 dX12_unit_5 flX12_343 kt_151 rfl rfl ?_
  refine r_iconst C 9 (nI 1) (by decide) dX12_unit_8 rfl ?_
  refine r_isub C 10 dX12_unit_9 rfl ?_
  refine r_iald C 11 dX12_unit_10 kt_170 rfl rfl (fun v_1 => ?_)
  refine r_iconst C 12 (nI 3) (by decide) dX12_unit_11 rfl ?_
  refine imp_jn (fun (j_3 : Int32 → Option (Int32 × CH)) => ∀ (s_2 : Int32), Imp κ 36 [(0, .ref (kad κ 151))] [.int (s_2)] h (j_3 s_2)) ?_ ?_
  · intro s_2
    refine r_istore_n C 37 1 [(1, .int (s_2)), (0, .ref (kad κ 151))] dX12_unit_36 rfl (by decide) rfl rfl ?_
    refine r_iload_n C 38 0 rfl dX12_unit_37 rfl ?_
    refine imp_jn (fun (j_5 : Int32 → Option (Int32 × CH)) => ∀ (s_4 : Int32), Imp κ 56 [(0, .ref (kad κ 151))] [.int (s_4)] h (j_5 s_4)) ?_ ?_
    · intro s_4
      refine r_istore_n C 57 2 [(2, .int (s_4)), (0, .ref (kad κ 151))] dX12_unit_56 rfl (by decide) rfl rfl ?_
      refine r_aload_n C 58 1 rfl dX12_unit_57 rfl ?_
      refine r_bipush C 60 (nI 40) (by decide) dX12_unit_58 rfl ?_
      refine r_cVpI C 63 [] (ok_f_X12_is ((nI 40)) h) dX12_unit_60 lvX12_302 kt_151 rfl rfl rfl (by decide) (Nat.le_of_ble_eq_true rfl) rfl rfl (Nat.le_of_ble_eq_true rfl) rfl rfl (fun v_6 => ?_)
      refine r_istore_n C 64 3 [(3, .int (v_6)), (2, .int (s_4)), (0, .ref (kad κ 151))] dX12_unit_63 rfl (by decide) rfl rfl ?_
      refine r_aload_n C 65 2 rfl dX12_unit_64 rfl ?_
      refine r_cVpI C 68 [] (ok_f_X12_wordHere h) dX12_unit_65 lvX12_358 kt_151 rfl rfl rfl (by decide) (Nat.le_of_ble_eq_true rfl) rfl rfl (Nat.le_of_ble_eq_true rfl) rfl rfl (fun v_7 => ?_)
      refine r_istore C 70 [(4, .int (v_7)), (3, .int (v_6)), (2, .int (s_4)), (0, .ref (kad κ 151))] dX12_unit_68 (by decide) rfl rfl ?_
      refine r_iload_n C 71 2 rfl dX12_unit_70 rfl ?_
      refine imp_jn (fun (j_9 : CH → Option (Int32 × CH)) => ∀ (h_8 : CH), Imp κ 121 [(0, .ref (kad κ 151)), (2, .int (s_4)), (3, .int (v_6)), (4, .int (v_7))] [] h_8 (j_9 h_8)) ?_ ?_
      · intro h_8
        refine r_aload_n C 122 0 rfl dX12_unit_121 rfl ?_
        refine r_cVpI C 125 [] (ok_f_X12_isGood h_8) dX12_unit_122 lvX12_239 kt_151 rfl rfl rfl (by decide) (Nat.le_of_ble_eq_true rfl) rfl rfl (Nat.le_of_ble_eq_true rfl) rfl rfl (fun v_10 => ?_)
        refine r_if_ne C 128 130 dX12_unit_125 (by decide) rfl (fun c_11 => ?_) (fun c_11 => ?_)
        · refine r_iconst C 129 (nI 1) (by decide) dX12_unit_128 rfl ?_
          exact r_zret C Rr (by decide) dX12_unit_129 (fun _ => rfl) rfl
        · refine r_aload_n C 131 0 rfl dX12_unit_130 rfl ?_
          refine r_dup C 132 rfl dX12_unit_131 rfl ?_
          refine r_getI C 135 dX12_unit_132 flX12_319 kt_151 rfl rfl ?_
          refine r_iload_n C 136 1 rfl dX12_unit_135 rfl ?_
          refine imp_jn (fun (j_14 : Int32 → Int32 → Option (Int32 × CH)) => ∀ (s_12 : Int32) (s_13 : Int32), Imp κ 144 [(0, .ref (kad κ 151)), (2, .int (s_4)), (3, .int (v_6)), (4, .int (v_7))] [.int (s_12), .int (s_13), .ref (kad κ 151)] h_8 (j_14 s_12 s_13)) ?_ ?_
          · intro s_12 s_13
            refine r_iadd C 145 dX12_unit_144 rfl ?_
            refine r_putI C 148 dX12_unit_145 flX12_319 kt_151 rfl rfl (fun h_15 => ?_)
            refine r_iload C 150 3 rfl dX12_unit_148 rfl ?_
            refine imp_jn (fun (j_17 : Int32 → Option (Int32 × CH)) => ∀ (s_16 : Int32), Imp κ 161 [(0, .ref (kad κ 151)), (2, .int (s_4)), (3, .int (v_6)), (4, .int (v_7))] [.int (s_16)] h_15 (j_17 s_16)) ?_ ?_
            · intro s_16
              refine r_istore C 163 [(5, .int (s_16)), (0, .ref (kad κ 151)), (2, .int (s_4)), (3, .int (v_6)), (4, .int (v_7))] dX12_unit_161 (by decide) rfl rfl ?_
              refine r_aload_n C 164 1 rfl dX12_unit_163 rfl ?_
              refine r_cViV C 167 [] (ok_f_X12_goOn h_15) dX12_unit_164 lvX12_243 kt_151 rfl rfl rfl (by decide) (Nat.le_of_ble_eq_true rfl) rfl rfl (Nat.le_of_ble_eq_true rfl) rfl rfl (fun _ h_18 => ?_)
              refine r_iload_n C 168 2 rfl dX12_unit_167 rfl ?_
              refine imp_jn (fun (j_19 : Option (Int32 × CH)) =>  Imp κ 175 [(0, .ref (kad κ 151)), (2, .int (s_4))] [] h_18 (j_19)) ?_ ?_
              · refine r_aload_n C 176 0 rfl dX12_unit_175 rfl ?_
                refine r_iload_n C 177 1 rfl dX12_unit_176 rfl ?_
                refine imp_jn (fun (j_21 : Int32 → Option (Int32 × CH)) => ∀ (s_20 : Int32), Imp κ 186 [(0, .ref (kad κ 151))] [.int (s_20), .ref (kad κ 151)] h_18 (j_21 s_20)) ?_ ?_
                · intro s_20
                  refine r_bipush C 188 (nI 126) (by decide) dX12_unit_186 rfl ?_
                  refine r_cViV C 191 [] (ok_f_X12_pushE s_20 ((nI 126)) h_18) dX12_unit_188 lvX12_349 kt_151 rfl rfl rfl (by decide) (Nat.le_of_ble_eq_true rfl) rfl rfl (Nat.le_of_ble_eq_true rfl) rfl rfl (fun _ h_22 => ?_)
                  refine r_aload_n C 192 0 rfl dX12_unit_191 rfl ?_
                  refine r_dup C 193 rfl dX12_unit_192 rfl ?_
                  refine r_getI C 196 dX12_unit_193 flX12_346 kt_151 rfl rfl ?_
                  refine r_iconst C 197 (nI 1) (by decide) dX12_unit_196 rfl ?_
                  refine r_iadd C 198 dX12_unit_197 rfl ?_
                  refine r_putI C 201 dX12_unit_198 flX12_346 kt_151 rfl rfl (fun h_23 => ?_)
                  refine r_iconst C 202 (nI 1) (by decide) dX12_unit_201 rfl ?_
                  exact r_zret C Rr (by decide) dX12_unit_202 (fun _ => rfl) rfl
                · intro j_21 hj_21
                  refine r_if_eq C 180 184 dX12_unit_177 (by decide) rfl (fun c_24 => ?_) (fun c_24 => ?_)
                  · refine r_bipush C 186 (nI 7) (by decide) dX12_unit_184 rfl ?_
                    exact imp_sub [(0, .ref (kad κ 151))] [0] rfl (hj_21 ((nI 7)))
                  · refine r_iconst C 181 (nI 3) (by decide) dX12_unit_180 rfl ?_
                    refine r_goto C 186 dX12_unit_181 (by decide) ?_
                    exact imp_sub [(0, .ref (kad κ 151))] [0] rfl (hj_21 ((nI 3)))
              · intro j_19 hj_19
                refine r_if_ne C 171 175 dX12_unit_168 (by decide) rfl (fun c_25 => ?_) (fun c_25 => ?_)
                · refine r_iload_n C 172 3 rfl dX12_unit_171 rfl ?_
                  refine r_if_eq C 175 203 dX12_unit_172 (by decide) rfl (fun c_26 => ?_) (fun c_26 => ?_)
                  · refine r_iload C 205 4 rfl dX12_unit_203 rfl ?_
                    refine r_bipush C 207 (nI 97) (by decide) dX12_unit_205 rfl ?_
                    refine imp_jn (fun (j_29 : Int32 → CH → Option (Int32 × CH)) => ∀ (x5_27 : Int32) (h_28 : CH), Imp κ 228 [(0, .ref (kad κ 151)), (4, .int (v_7)), (5, .int (x5_27))] [] h_28 (j_29 x5_27 h_28)) ?_ ?_
                    · intro x5_27 h_28
                      refine r_aload_n C 229 0 rfl dX12_unit_228 rfl ?_
                      refine r_iload C 231 1 rfl dX12_unit_229 rfl ?_
                      refine imp_jn (fun (j_31 : Int32 → Option (Int32 × CH)) => ∀ (s_30 : Int32), Imp κ 241 [(5, .int (x5_27))] [.int (s_30), .ref (kad κ 151)] h_28 (j_31 s_30)) ?_ ?_
                      · intro s_30
                        refine r_iload C 243 0 rfl dX12_unit_241 rfl ?_
                        refine r_cViV C 246 [] (ok_f_X12_emit s_30 x5_27 h_28) dX12_unit_243 lvX12_361 kt_151 rfl rfl rfl (by decide) (Nat.le_of_ble_eq_true rfl) rfl rfl (Nat.le_of_ble_eq_true rfl) rfl rfl (fun _ h_32 => ?_)
                        refine r_iconst C 247 (nI 0) (by decide) dX12_unit_246 rfl ?_
                        exact r_zret C Rr (by decide) dX12_unit_247 (fun _ => rfl) rfl
                      · intro j_31 hj_31
                        refine r_if_ne C 234 239 dX12_unit_231 (by decide) rfl (fun c_33 => ?_) (fun c_33 => ?_)
                        · refine r_bipush C 236 (nI 110) (by decide) dX12_unit_234 rfl ?_
                          refine r_goto C 241 dX12_unit_236 (by decide) ?_
                          exact imp_sub [(5, .int (x5_27))] [2] rfl (hj_31 ((nI 110)))
                        · refine r_iload C 241 1 rfl dX12_unit_239 rfl ?_
                          exact imp_sub [(5, .int (x5_27))] [2] rfl (hj_31 (v_7))
                    · intro j_29 hj_29
                      refine r_icmp_ne C 210 228 dX12_unit_207 (by decide) rfl (fun c_34 => ?_) (fun c_34 => ?_)
                      · refine r_aload_n C 211 1 rfl dX12_unit_210 rfl ?_
                        refine r_iconst C 212 (nI 0) (by decide) dX12_unit_211 rfl ?_
                        refine r_aload_n C 213 1 rfl dX12_unit_212 rfl ?_
                        refine r_getR C 216 dX12_unit_213 flX12_20 kt_151 rfl rf_151_12 rfl ?_
                        refine r_aload_n C 217 1 rfl dX12_unit_216 rfl ?_
                        refine r_getI C 220 dX12_unit_217 flX12_269 kt_151 rfl rfl ?_
                        refine r_iald C 221 dX12_unit_220 kt_154 rfl rfl (fun v_35 => ?_)
                        refine r_iconst C 222 (nI 1) (by decide) dX12_unit_221 rfl ?_
                        refine r_isub C 223 dX12_unit_222 rfl ?_
                        refine r_cViI C 226 [] (ok_f_X12_numeral ((nI 0)) ((v_35) - ((nI 1))) h_18) dX12_unit_223 lvX12_256 kt_151 rfl rfl rfl (by decide) (Nat.le_of_ble_eq_true rfl) rfl rfl (Nat.le_of_ble_eq_true rfl) rfl rfl (fun v_36 h_37 => ?_)
                        refine r_istore C 228 [(5, .int (v_36)), (0, .ref (kad κ 151)), (2, .int (s_4)), (3, .int (v_6)), (4, .int (v_7))] dX12_unit_226 (by decide) rfl rfl ?_
                        exact imp_sub [(0, .ref (kad κ 151)), (4, .int (v_7)), (5, .int (v_36))] [1, 4, 0] rfl (hj_29 (v_36) h_37)
                      · exact imp_sub [(0, .ref (kad κ 151)), (4, .int (v_7)), (5, .int (s_16))] [1, 4, 0] rfl (hj_29 (s_16) h_18)
                  · exact imp_sub [(0, .ref (kad κ 151)), (2, .int (s_4))] [1, 2] rfl (hj_19)
                · exact imp_sub [(0, .ref (kad κ 151)), (2, .int (s_4))] [1, 2] rfl (hj_19)
            · intro j_17 hj_17
              refine r_if_ne C 153 160 dX12_unit_150 (by decide) rfl (fun c_38 => ?_) (fun c_38 => ?_)
              · refine r_aload_n C 154 0 rfl dX12_unit_153 rfl ?_
                refine r_getI C 157 dX12_unit_154 flX12_229 kt_151 rfl rfl ?_
                refine r_goto C 161 dX12_unit_157 (by decide) ?_
                exact imp_sub [(0, .ref (kad κ 151)), (2, .int (s_4)), (3, .int (v_6)), (4, .int (v_7))] [0, 1, 2, 3] rfl (hj_17 (h_15.1 151 9))
              · refine r_iconst C 161 (nI 0) (by decide) dX12_unit_160 rfl ?_
                exact imp_sub [(0, .ref (kad κ 151)), (2, .int (s_4)), (3, .int (v_6)), (4, .int (v_7))] [0, 1, 2, 3] rfl (hj_17 ((nI 0)))
          · intro j_14 hj_14
            refine r_if_eq C 139 143 dX12_unit_136 (by decide) rfl (fun c_39 => ?_) (fun c_39 => ?_)
            · refine r_iconst C 144 (nI 1) (by decide) dX12_unit_143 rfl ?_
              exact imp_sub [(0, .ref (kad κ 151)), (2, .int (s_4)), (3, .int (v_6)), (4, .int (v_7))] [0, 1, 2, 3] rfl (hj_14 ((nI 1)) (h_8.1 151 37))
            · refine r_iconst C 140 (nI 0) (by decide) dX12_unit_139 rfl ?_
              refine r_goto C 144 dX12_unit_140 (by decide) ?_
              exact imp_sub [(0, .ref (kad κ 151)), (2, .int (s_4)), (3, .int (v_6)), (4, .int (v_7))] [0, 1, 2, 3] rfl (hj_14 ((nI 0)) (h_8.1 151 37))
      · intro j_9 hj_9
        refine imp_jn (fun (j_40 : Option (Int32 × CH)) =>  Imp κ 117 [(0, .ref (kad κ 151)), (2, .int (s_4)), (3, .int (v_6)), (4, .int (v_7))] [] h (j_40)) ?_ ?_
        · refine r_aload_n C 118 0 rfl dX12_unit_117 rfl ?_
          refine r_cViV C 121 [] (ok_f_X12_misplaced h) dX12_unit_118 lvX12_246 kt_151 rfl rfl rfl (by decide) (Nat.le_of_ble_eq_true rfl) rfl rfl (Nat.le_of_ble_eq_true rfl) rfl rfl (fun _ h_41 => ?_)
          exact imp_sub [(0, .ref (kad κ 151)), (2, .int (s_4)), (3, .int (v_6)), (4, .int (v_7))] [0, 1, 2, 3] rfl (hj_9 h_41)
        · intro j_40 hj_40
          refine imp_jn (fun (j_42 : Option (Int32 × CH)) =>  Imp κ 100 [(0, .ref (kad κ 151)), (2, .int (s_4)), (3, .int (v_6)), (4, .int (v_7))] [] h (j_42)) ?_ ?_
          · refine r_iload_n C 101 1 rfl dX12_unit_100 rfl ?_
            refine imp_jn (fun (j_43 : Option (Int32 × CH)) =>  Imp κ 108 [(0, .ref (kad κ 151)), (2, .int (s_4)), (3, .int (v_6)), (4, .int (v_7))] [] h (j_43)) ?_ ?_
            · refine r_aload_n C 109 0 rfl dX12_unit_108 rfl ?_
              refine r_getI C 112 dX12_unit_109 flX12_346 kt_151 rfl rfl ?_
              refine r_bipush C 114 (nI 7) (by decide) dX12_unit_112 rfl ?_
              refine r_icmp_ne C 117 121 dX12_unit_114 (by decide) rfl (fun c_44 => ?_) (fun c_44 => ?_)
              · exact imp_sub [(0, .ref (kad κ 151)), (2, .int (s_4)), (3, .int (v_6)), (4, .int (v_7))] [0, 1, 2, 3] rfl (hj_40)
              · exact imp_sub [(0, .ref (kad κ 151)), (2, .int (s_4)), (3, .int (v_6)), (4, .int (v_7))] [0, 1, 2, 3] rfl (hj_9 h)
            · intro j_43 hj_43
              refine r_if_ne C 104 108 dX12_unit_101 (by decide) rfl (fun c_45 => ?_) (fun c_45 => ?_)
              · refine r_iload_n C 105 2 rfl dX12_unit_104 rfl ?_
                refine r_if_eq C 108 121 dX12_unit_105 (by decide) rfl (fun c_46 => ?_) (fun c_46 => ?_)
                · exact imp_sub [(0, .ref (kad κ 151)), (2, .int (s_4)), (3, .int (v_6)), (4, .int (v_7))] [0, 1, 2, 3] rfl (hj_9 h)
                · exact imp_sub [(0, .ref (kad κ 151)), (2, .int (s_4)), (3, .int (v_6)), (4, .int (v_7))] [0, 1, 2, 3] rfl (hj_43)
              · exact imp_sub [(0, .ref (kad κ 151)), (2, .int (s_4)), (3, .int (v_6)), (4, .int (v_7))] [0, 1, 2, 3] rfl (hj_43)
          · intro j_42 hj_42
            refine r_if_ne C 74 100 dX12_unit_71 (by decide) rfl (fun c_47 => ?_) (fun c_47 => ?_)
            · refine r_iload C 76 0 rfl dX12_unit_74 rfl ?_
              refine imp_jn (fun (j_48 : Option (Int32 × CH)) =>  Imp κ 91 [(0, .ref (kad κ 151)), (2, .int (s_4)), (3, .int (v_6)), (4, .int (v_7))] [] h (j_48)) ?_ ?_
              · refine r_aload_n C 92 0 rfl dX12_unit_91 rfl ?_
                refine r_getI C 95 dX12_unit_92 flX12_319 kt_151 rfl rfl ?_
                refine r_bipush C 97 (nI 40) (by decide) dX12_unit_95 rfl ?_
                refine r_icmp_eq C 100 117 dX12_unit_97 (by decide) rfl (fun c_49 => ?_) (fun c_49 => ?_)
                · exact imp_sub [(0, .ref (kad κ 151)), (2, .int (s_4)), (3, .int (v_6)), (4, .int (v_7))] [0, 1, 2, 3] rfl (hj_40)
                · exact imp_sub [(0, .ref (kad κ 151)), (2, .int (s_4)), (3, .int (v_6)), (4, .int (v_7))] [0, 1, 2, 3] rfl (hj_42)
              · intro j_48 hj_48
                refine r_if_ne C 79 91 dX12_unit_76 (by decide) rfl (fun c_50 => ?_) (fun c_50 => ?_)
                · refine r_aload_n C 80 3 rfl dX12_unit_79 rfl ?_
                  refine r_getI C 83 dX12_unit_80 flX12_211 kt_151 rfl rfl ?_
                  refine r_iconst C 84 (nI 4) (by decide) dX12_unit_83 rfl ?_
                  refine r_icmp_eq C 87 91 dX12_unit_84 (by decide) rfl (fun c_51 => ?_) (fun c_51 => ?_)
                  · exact imp_sub [(0, .ref (kad κ 151)), (2, .int (s_4)), (3, .int (v_6)), (4, .int (v_7))] [3, 2, 1, 0] rfl (hj_48)
                  · refine r_iload_n C 88 1 rfl dX12_unit_87 rfl ?_
                    refine r_if_eq C 91 117 dX12_unit_88 (by decide) rfl (fun c_52 => ?_) (fun c_52 => ?_)
                    · exact imp_sub [(0, .ref (kad κ 151)), (2, .int (s_4)), (3, .int (v_6)), (4, .int (v_7))] [3, 2, 1, 0] rfl (hj_40)
                    · exact imp_sub [(0, .ref (kad κ 151)), (2, .int (s_4)), (3, .int (v_6)), (4, .int (v_7))] [3, 2, 1, 0] rfl (hj_48)
                · exact imp_sub [(0, .ref (kad κ 151)), (2, .int (s_4)), (3, .int (v_6)), (4, .int (v_7))] [3, 2, 1, 0] rfl (hj_48)
            · exact imp_sub [(0, .ref (kad κ 151)), (2, .int (s_4)), (3, .int (v_6)), (4, .int (v_7))] [3, 2, 1, 0] rfl (hj_42)
    · intro j_5 hj_5
      refine imp_jn (fun (j_53 : Option (Int32 × CH)) =>  Imp κ 55 [(0, .ref (kad κ 151))] [] h (j_53)) ?_ ?_
      · refine r_iconst C 56 (nI 0) (by decide) dX12_unit_55 rfl ?_
        exact imp_sub [(0, .ref (kad κ 151))] [0] rfl (hj_5 ((nI 0)))
      · intro j_53 hj_53
        refine r_if_eq C 41 55 dX12_unit_38 (by decide) rfl (fun c_54 => ?_) (fun c_54 => ?_)
        · exact imp_sub [(0, .ref (kad κ 151))] [1] rfl (hj_53)
        · refine r_aload_n C 42 1 rfl dX12_unit_41 rfl ?_
          refine r_ldc2 C 45 lcX12_195 dX12_unit_42 rfl ?_
          refine r_cVpI C 48 [] (ok_f_X12_isWord 7237492 h) dX12_unit_45 lvX12_249 kt_151 rfl rfl rfl (by decide) (Nat.le_of_ble_eq_true rfl) rfl rfl (Nat.le_of_ble_eq_true rfl) rfl rfl (fun v_55 => ?_)
          refine r_if_eq C 51 55 dX12_unit_48 (by decide) rfl (fun c_56 => ?_) (fun c_56 => ?_)
          · exact imp_sub [(0, .ref (kad κ 151))] [1] rfl (hj_53)
          · refine r_iconst C 52 (nI 1) (by decide) dX12_unit_51 rfl ?_
            refine r_goto C 56 dX12_unit_52 (by decide) ?_
            exact imp_sub [(0, .ref (kad κ 151))] [1] rfl (hj_5 ((nI 1)))
  · intro j_3 hj_3
    refine imp_jn (fun (j_57 : Option (Int32 × CH)) =>  Imp κ 31 [(0, .ref (kad κ 151))] [] h (j_57)) ?_ ?_
    · refine r_iconst C 32 (nI 1) (by decide) dX12_unit_31 rfl ?_
      refine r_goto C 36 dX12_unit_32 (by decide) ?_
      exact imp_sub [(0, .ref (kad κ 151))] [0] rfl (hj_3 ((nI 1)))
    · intro j_57 hj_57
      refine r_icmp_le C 15 31 dX12_unit_12 (by decide) rfl (fun c_58 => ?_) (fun c_58 => ?_)
      · refine r_aload_n C 16 0 rfl dX12_unit_15 rfl ?_
        refine r_getR C 19 dX12_unit_16 flX12_71 kt_151 rfl rf_151_30 rfl ?_
        refine r_aload_n C 20 0 rfl dX12_unit_19 rfl ?_
        refine r_getI C 23 dX12_unit_20 flX12_343 kt_151 rfl rfl ?_
        refine r_iconst C 24 (nI 1) (by decide) dX12_unit_23 rfl ?_
        refine r_isub C 25 dX12_unit_24 rfl ?_
        refine r_iald C 26 dX12_unit_25 kt_170 rfl rfl (fun v_59 => ?_)
        refine r_bipush C 28 (nI 7) (by decide) dX12_unit_26 rfl ?_
        refine r_icmp_lt C 31 35 dX12_unit_28 (by decide) rfl (fun c_60 => ?_) (fun c_60 => ?_)
        · refine r_iconst C 36 (nI 0) (by decide) dX12_unit_35 rfl ?_
          exact imp_sub [(0, .ref (kad κ 151))] [0] rfl (hj_3 ((nI 0)))
        · exact imp_sub [(0, .ref (kad κ 151))] [0] rfl (hj_57)
      · exact imp_sub [(0, .ref (kad κ 151))] [0] rfl (hj_57)
set_option maxHeartbeats 4000000 in
theorem ok_f_X12_unit   (h : CH) : ∀ q, f_X12_unit h = some q → MG yX12_unit cX12_unit 6 (some .boolean) [] 4 (fun ad => [.ref (ad 151)]) h ((fun (q : Int32 × CH) (_ : Nat → Nat) => some (Value.int q.1)) q) ((fun (q : (Int32 × CH)) => q.2) q) := mg_of RX12 (by decide) rfl (fun _ => Nat.le_of_ble_eq_true rfl) (fun κ C Rr => imp_f_X12_unit C  h Rr)
set_option maxHeartbeats 4000000 in
set_option maxRecDepth 100000 in
theorem imp_f_X12_e_L19 {κ : Kx (Unit × CH)} (C : Cx κ cX12_e RX12 2 5 (40 * 5) [])     (Rr : Rt κ none (fun (_ : Unit × CH) (_ : Nat → Nat) => (none : Option Value)) (fun (q : (Unit × CH)) => q.2)) : ∀ (n : Nat) (x1 : Int32) (h : CH), Imp κ 19 [(0, .ref (kad κ 151)), (1, .int (x1))] [] h (f_X12_e_L19 n x1 h) := by
  intro n
  induction n with
  | zero => intros; exact imp_none
  | succ n ih =>
    intro x1 h
    rw [f_X12_e_L19]
    refine r_aload_n C 20 0 rfl dX12_e_19 rfl ?_
    refine r_cVpI C 23 [] (ok_f_X12_isGood h) dX12_e_20 lvX12_239 kt_151 rfl rfl rfl (by decide) (Nat.le_of_ble_eq_true rfl) rfl rfl (Nat.le_of_ble_eq_true rfl) rfl rfl (fun v_4 => ?_)
    refine r_if_eq C 26 52 dX12_e_23 (by decide) rfl (fun c_5 => ?_) (fun c_5 => ?_)
    · exact r_vret C Rr dX12_e_52 (fun _ => rfl) rfl
    · refine r_aload_n C 27 0 rfl dX12_e_26 rfl ?_
      refine r_getI C 30 dX12_e_27 flX12_343 kt_151 rfl rfl ?_
      refine r_if_le C 33 52 dX12_e_30 (by decide) rfl (fun c_6 => ?_) (fun c_6 => ?_)
      · refine r_iload_n C 34 1 rfl dX12_e_33 rfl ?_
        refine imp_jn (fun (j_9 : Int32 → CH → Option (Unit × CH)) => ∀ (s_7 : Int32) (h_8 : CH), Imp κ 48 [(0, .ref (kad κ 151))] [.int (s_7)] h_8 (j_9 s_7 h_8)) ?_ ?_
        · intro s_7 h_8
          refine r_istore_n C 49 1 [(1, .int (s_7)), (0, .ref (kad κ 151))] dX12_e_48 rfl (by decide) rfl rfl ?_
          refine r_goto C 19 dX12_e_49 (by decide) ?_
          exact imp_sub [(0, .ref (kad κ 151)), (1, .int (s_7))] [1, 0] rfl (ih (s_7) h_8)
        · intro j_9 hj_9
          refine r_if_eq C 37 44 dX12_e_34 (by decide) rfl (fun c_10 => ?_) (fun c_10 => ?_)
          · refine r_aload_n C 45 0 rfl dX12_e_44 rfl ?_
            refine r_cViI C 48 [] (ok_f_X12_behindUnit h) dX12_e_45 lvX12_355 kt_151 rfl rfl rfl (by decide) (Nat.le_of_ble_eq_true rfl) rfl rfl (Nat.le_of_ble_eq_true rfl) rfl rfl (fun v_11 h_12 => ?_)
            exact imp_sub [(0, .ref (kad κ 151))] [0] rfl (hj_9 (v_11) h_12)
          · refine r_aload_n C 38 0 rfl dX12_e_37 rfl ?_
            refine r_cViI C 41 [] (ok_f_X12_unit h) dX12_e_38 lvX12_352 kt_151 rfl rfl rfl (by decide) (Nat.le_of_ble_eq_true rfl) rfl rfl (Nat.le_of_ble_eq_true rfl) rfl rfl (fun v_13 h_14 => ?_)
            refine r_goto C 48 dX12_e_41 (by decide) ?_
            exact imp_sub [(0, .ref (kad κ 151))] [0] rfl (hj_9 (v_13) h_14)
      · exact r_vret C Rr dX12_e_52 (fun _ => rfl) rfl
set_option maxHeartbeats 4000000 in
set_option maxRecDepth 100000 in
theorem imp_f_X12_e {κ : Kx (Unit × CH)} (C : Cx κ cX12_e RX12 2 5 (40 * 5) [])   (h : CH) (Rr : Rt κ none (fun (_ : Unit × CH) (_ : Nat → Nat) => (none : Option Value)) (fun (q : (Unit × CH)) => q.2)) : Imp κ 0 [(0, .ref (kad κ 151))] [] h (f_X12_e h) := by
  unfold f_X12_e
  refine r_aload_n C 1 0 rfl dX12_e_0 rfl ?_
  refine r_iconst C 2 (nI 0) (by decide) dX12_e_1 rfl ?_
  refine r_putI C 5 dX12_e_2 flX12_343 kt_151 rfl rfl (fun h_1 => ?_)
  refine r_aload_n C 6 0 rfl dX12_e_5 rfl ?_
  refine r_iconst C 7 (nI 0) (by decide) dX12_e_6 rfl ?_
  refine r_putI C 10 dX12_e_7 flX12_346 kt_151 rfl rfl (fun h_2 => ?_)
  refine r_aload_n C 11 0 rfl dX12_e_10 rfl ?_
  refine r_bipush C 13 (nI 8) (by decide) dX12_e_11 rfl ?_
  refine r_iconst C 14 (nI 0) (by decide) dX12_e_13 rfl ?_
  refine r_cViV C 17 [] (ok_f_X12_pushE ((nI 8)) ((nI 0)) h_2) dX12_e_14 lvX12_349 kt_151 rfl rfl rfl (by decide) (Nat.le_of_ble_eq_true rfl) rfl rfl (Nat.le_of_ble_eq_true rfl) rfl rfl (fun _ h_3 => ?_)
  refine r_iconst C 18 (nI 1) (by decide) dX12_e_17 rfl ?_
  refine r_istore_n C 19 1 [(1, .int ((nI 1))), (0, .ref (kad κ 151))] dX12_e_18 rfl (by decide) rfl rfl ?_
  refine imp_sub [(0, .ref (kad κ 151)), (1, .int ((nI 1)))] [1, 0] rfl ?_
  refine imp_f_X12_e_L19 C Rr FU ((nI 1)) h_3
set_option maxHeartbeats 4000000 in
theorem ok_f_X12_e   (h : CH) : ∀ q, f_X12_e h = some q → MG yX12_e cX12_e 2 none [] 5 (fun ad => [.ref (ad 151)]) h ((fun (_ : Unit × CH) (_ : Nat → Nat) => (none : Option Value)) q) ((fun (q : (Unit × CH)) => q.2) q) := mg_of RX12 (by decide) rfl (fun _ => Nat.le_of_ble_eq_true rfl) (fun κ C Rr => imp_f_X12_e C  h Rr)
set_option maxHeartbeats 4000000 in
set_option maxRecDepth 100000 in
theorem imp_f_X12_readSignName_L14 {κ : Kx (Unit × CH)} (C : Cx κ cX12_readSignName RX12 2 4 (40 * 4) [])     (Rr : Rt κ none (fun (_ : Unit × CH) (_ : Nat → Nat) => (none : Option Value)) (fun (q : (Unit × CH)) => q.2)) : ∀ (n : Nat) (x1 : Int32) (h : CH), Imp κ 14 [(0, .ref (kad κ 151)), (1, .int (x1))] [] h (f_X12_readSignName_L14 n x1 h) := by
  intro n
  induction n with
  | zero => intros; exact imp_none
  | succ n ih =>
    intro x1 h
    rw [f_X12_readSignName_L14]
    refine r_iload_n C 15 1 rfl dX12_readSignName_14 rfl ?_
    refine r_aload_n C 16 0 rfl dX12_readSignName_15 rfl ?_
    refine r_getI C 19 dX12_readSignName_16 flX12_322 kt_151 rfl rfl ?_
    refine imp_jn (fun (j_3 : Option (Unit × CH)) =>  Imp κ 58 [(0, .ref (kad κ 151))] [] h (j_3)) ?_ ?_
    · refine r_aload_n C 59 0 rfl dX12_readSignName_58 rfl ?_
      refine r_getR C 62 dX12_readSignName_59 flX12_86 kt_151 rfl rf_151_35 rfl ?_
      refine r_aload_n C 63 0 rfl dX12_readSignName_62 rfl ?_
      refine r_getI C 66 dX12_readSignName_63 flX12_322 kt_151 rfl rfl ?_
      refine r_aload_n C 67 0 rfl dX12_readSignName_66 rfl ?_
      refine r_getL C 70 dX12_readSignName_67 flX12_218 kt_151 rfl rfl ?_
      refine r_last C 71 dX12_readSignName_70 kt_175 rfl rfl (fun h_4 => ?_)
      refine r_aload_n C 72 0 rfl dX12_readSignName_71 rfl ?_
      refine r_aload_n C 73 0 rfl dX12_readSignName_72 rfl ?_
      refine r_getI C 76 dX12_readSignName_73 flX12_211 kt_151 rfl rfl ?_
      refine r_iconst C 77 (nI 2) (by decide) dX12_readSignName_76 rfl ?_
      refine imp_jn (fun (j_6 : Int32 → Option (Unit × CH)) => ∀ (s_5 : Int32), Imp κ 85 [(0, .ref (kad κ 151))] [.int (s_5), .ref (kad κ 151)] h_4 (j_6 s_5)) ?_ ?_
      · intro s_5
        refine r_cViV C 88 [] (ok_f_X12_must s_5 h_4) dX12_readSignName_85 lvX12_252 kt_151 rfl rfl rfl (by decide) (Nat.le_of_ble_eq_true rfl) rfl rfl (Nat.le_of_ble_eq_true rfl) rfl rfl (fun _ h_7 => ?_)
        refine r_aload_n C 89 0 rfl dX12_readSignName_88 rfl ?_
        refine r_aload_n C 90 0 rfl dX12_readSignName_89 rfl ?_
        refine r_ldc2 C 93 lcX12_173 dX12_readSignName_90 rfl ?_
        refine r_cVpI C 96 [.ref (kad κ 151)] (ok_f_X12_isWord 2003330414 h_7) dX12_readSignName_93 lvX12_249 kt_151 rfl rfl rfl (by decide) (Nat.le_of_ble_eq_true rfl) rfl rfl (Nat.le_of_ble_eq_true rfl) rfl rfl (fun v_8 => ?_)
        refine r_cViV C 99 [] (ok_f_X12_must v_8 h_7) dX12_readSignName_96 lvX12_252 kt_151 rfl rfl rfl (by decide) (Nat.le_of_ble_eq_true rfl) rfl rfl (Nat.le_of_ble_eq_true rfl) rfl rfl (fun _ h_9 => ?_)
        exact r_vret C Rr dX12_readSignName_99 (fun _ => rfl) rfl
      · intro j_6 hj_6
        refine r_icmp_ne C 80 84 dX12_readSignName_77 (by decide) rfl (fun c_10 => ?_) (fun c_10 => ?_)
        · refine r_iconst C 81 (nI 1) (by decide) dX12_readSignName_80 rfl ?_
          refine r_goto C 85 dX12_readSignName_81 (by decide) ?_
          exact imp_sub [(0, .ref (kad κ 151))] [0] rfl (hj_6 ((nI 1)))
        · refine r_iconst C 85 (nI 0) (by decide) dX12_readSignName_84 rfl ?_
          exact imp_sub [(0, .ref (kad κ 151))] [0] rfl (hj_6 ((nI 0)))
    · intro j_3 hj_3
      refine r_icmp_ge C 22 58 dX12_readSignName_19 (by decide) rfl (fun c_11 => ?_) (fun c_11 => ?_)
      · refine r_aload_n C 23 0 rfl dX12_readSignName_22 rfl ?_
        refine r_cVpI C 26 [] (ok_f_X12_isGood h) dX12_readSignName_23 lvX12_239 kt_151 rfl rfl rfl (by decide) (Nat.le_of_ble_eq_true rfl) rfl rfl (Nat.le_of_ble_eq_true rfl) rfl rfl (fun v_12 => ?_)
        refine r_if_eq C 29 58 dX12_readSignName_26 (by decide) rfl (fun c_13 => ?_) (fun c_13 => ?_)
        · exact imp_sub [(0, .ref (kad κ 151))] [0] rfl (hj_3)
        · refine r_aload_n C 30 0 rfl dX12_readSignName_29 rfl ?_
          refine r_getR C 33 dX12_readSignName_30 flX12_86 kt_151 rfl rf_151_35 rfl ?_
          refine r_iload_n C 34 1 rfl dX12_readSignName_33 rfl ?_
          refine r_lald C 35 dX12_readSignName_34 kt_175 rfl rfl (fun v_14 => ?_)
          refine r_aload_n C 36 0 rfl dX12_readSignName_35 rfl ?_
          refine r_getL C 39 dX12_readSignName_36 flX12_218 kt_151 rfl rfl ?_
          refine r_lcmp C 40 dX12_readSignName_39 rfl ?_
          refine imp_jn (fun (j_16 : CH → Option (Unit × CH)) => ∀ (h_15 : CH), Imp κ 52 [(0, .ref (kad κ 151)), (1, .int (x1))] [] h_15 (j_16 h_15)) ?_ ?_
          · intro h_15
            refine r_iinc C 55 1 (nI 1) [(1, .int (x1 + (nI 1))), (0, .ref (kad κ 151))] dX12_readSignName_52 rfl (by decide) (by decide) rfl rfl ?_
            refine r_goto C 14 dX12_readSignName_55 (by decide) ?_
            exact imp_sub [(0, .ref (kad κ 151)), (1, .int (x1 + (nI 1)))] [1, 0] rfl (ih (x1 + (nI 1)) h_15)
          · intro j_16 hj_16
            refine r_if_ne C 43 52 dX12_readSignName_40 (by decide) rfl (fun c_17 => ?_) (fun c_17 => ?_)
            · refine r_aload_n C 44 0 rfl dX12_readSignName_43 rfl ?_
              refine r_iconst C 45 (nI 3) (by decide) dX12_readSignName_44 rfl ?_
              refine r_aload_n C 46 0 rfl dX12_readSignName_45 rfl ?_
              refine r_getI C 49 dX12_readSignName_46 flX12_204 kt_151 rfl rfl ?_
              refine r_cViV C 52 [] (ok_f_X12_fails ((nI 3)) (h.1 151 6) h) dX12_readSignName_49 lvX12_235 kt_151 rfl rfl rfl (by decide) (Nat.le_of_ble_eq_true rfl) rfl rfl (Nat.le_of_ble_eq_true rfl) rfl rfl (fun _ h_18 => ?_)
              exact imp_sub [(0, .ref (kad κ 151)), (1, .int (x1))] [0, 1] rfl (hj_16 h_18)
            · exact imp_sub [(0, .ref (kad κ 151)), (1, .int (x1))] [0, 1] rfl (hj_16 h)
      · exact imp_sub [(0, .ref (kad κ 151))] [0] rfl (hj_3)
set_option maxHeartbeats 4000000 in
set_option maxRecDepth 100000 in
theorem imp_f_X12_readSignName {κ : Kx (Unit × CH)} (C : Cx κ cX12_readSignName RX12 2 4 (40 * 4) [])   (h : CH) (Rr : Rt κ none (fun (_ : Unit × CH) (_ : Nat → Nat) => (none : Option Value)) (fun (q : (Unit × CH)) => q.2)) : Imp κ 0 [(0, .ref (kad κ 151))] [] h (f_X12_readSignName h) := by
  unfold f_X12_readSignName
  refine r_aload_n C 1 0 rfl dX12_readSignName_0 rfl ?_
  refine r_getI C 4 dX12_readSignName_1 flX12_211 kt_151 rfl rfl ?_
  refine r_iconst C 5 (nI 2) (by decide) dX12_readSignName_4 rfl ?_
  refine imp_jn (fun (j_2 : CH → Option (Unit × CH)) => ∀ (h_1 : CH), Imp κ 12 [(0, .ref (kad κ 151))] [] h_1 (j_2 h_1)) ?_ ?_
  · intro h_1
    refine r_iconst C 13 (nI 0) (by decide) dX12_readSignName_12 rfl ?_
    refine r_istore_n C 14 1 [(1, .int ((nI 0))), (0, .ref (kad κ 151))] dX12_readSignName_13 rfl (by decide) rfl rfl ?_
    refine imp_sub [(0, .ref (kad κ 151)), (1, .int ((nI 0)))] [1, 0] rfl ?_
    refine imp_f_X12_readSignName_L14 C Rr FU ((nI 0)) h_1
  · intro j_2 hj_2
    refine r_icmp_eq C 8 12 dX12_readSignName_5 (by decide) rfl (fun c_19 => ?_) (fun c_19 => ?_)
    · exact imp_sub [(0, .ref (kad κ 151))] [0] rfl (hj_2 h)
    · refine r_aload_n C 9 0 rfl dX12_readSignName_8 rfl ?_
      refine r_cViV C 12 [] (ok_f_X12_misplaced h) dX12_readSignName_9 lvX12_246 kt_151 rfl rfl rfl (by decide) (Nat.le_of_ble_eq_true rfl) rfl rfl (Nat.le_of_ble_eq_true rfl) rfl rfl (fun _ h_20 => ?_)
      exact imp_sub [(0, .ref (kad κ 151))] [0] rfl (hj_2 h_20)
set_option maxHeartbeats 4000000 in
theorem ok_f_X12_readSignName   (h : CH) : ∀ q, f_X12_readSignName h = some q → MG yX12_readSignName cX12_readSignName 2 none [] 4 (fun ad => [.ref (ad 151)]) h ((fun (_ : Unit × CH) (_ : Nat → Nat) => (none : Option Value)) q) ((fun (q : (Unit × CH)) => q.2) q) := mg_of RX12 (by decide) rfl (fun _ => Nat.le_of_ble_eq_true rfl) (fun κ C Rr => imp_f_X12_readSignName C  h Rr)
set_option maxHeartbeats 4000000 in
set_option maxRecDepth 100000 in
theorem imp_f_X12_readRule {κ : Kx (Unit × CH)} (C : Cx κ cX12_readRule RX12 3 6 (40 * 6) [])   (h : CH) (Rr : Rt κ none (fun (_ : Unit × CH) (_ : Nat → Nat) => (none : Option Value)) (fun (q : (Unit × CH)) => q.2)) : Imp κ 0 [(0, .ref (kad κ 151))] [] h (f_X12_readRule h) := by
  unfold f_X12_readRule
  refine r_aload_n C 1 0 rfl dX12_readRule_0 rfl ?_
  refine r_ldc2 C 4 lcX12_169 dX12_readRule_1 rfl ?_
  refine r_cVpI C 7 [] (ok_f_X12_isWord 6447474 h) dX12_readRule_4 lvX12_249 kt_151 rfl rfl rfl (by decide) (Nat.le_of_ble_eq_true rfl) rfl rfl (Nat.le_of_ble_eq_true rfl) rfl rfl (fun v_1 => ?_)
  refine r_istore_n C 8 1 [(1, .int (v_1)), (0, .ref (kad κ 151))] dX12_readRule_7 rfl (by decide) rfl rfl ?_
  refine r_iload_n C 9 0 rfl dX12_readRule_8 rfl ?_
  refine imp_jn (fun (j_3 : CH → Option (Unit × CH)) => ∀ (h_2 : CH), Imp κ 49 [(0, .ref (kad κ 151)), (1, .int (v_1))] [] h_2 (j_3 h_2)) ?_ ?_
  · intro h_2
    refine r_aload_n C 50 0 rfl dX12_readRule_49 rfl ?_
    refine r_cVpI C 53 [] (ok_f_X12_isGood h_2) dX12_readRule_50 lvX12_239 kt_151 rfl rfl rfl (by decide) (Nat.le_of_ble_eq_true rfl) rfl rfl (Nat.le_of_ble_eq_true rfl) rfl rfl (fun v_4 => ?_)
    refine r_if_ne C 56 57 dX12_readRule_53 (by decide) rfl (fun c_5 => ?_) (fun c_5 => ?_)
    · exact r_vret C Rr dX12_readRule_56 (fun _ => rfl) rfl
    · refine r_aload_n C 58 0 rfl dX12_readRule_57 rfl ?_
      refine r_cViV C 61 [] (ok_f_X12_goOn h_2) dX12_readRule_58 lvX12_243 kt_151 rfl rfl rfl (by decide) (Nat.le_of_ble_eq_true rfl) rfl rfl (Nat.le_of_ble_eq_true rfl) rfl rfl (fun _ h_6 => ?_)
      refine r_iload_n C 62 1 rfl dX12_readRule_61 rfl ?_
      refine imp_jn (fun (j_8 : Int32 → Option (Unit × CH)) => ∀ (s_7 : Int32), Imp κ 77 [(0, .ref (kad κ 151)), (1, .int (v_1))] [.int (s_7)] h_6 (j_8 s_7)) ?_ ?_
      · intro s_7
        refine r_istore_n C 78 2 [(2, .int (s_7)), (0, .ref (kad κ 151)), (1, .int (v_1))] dX12_readRule_77 rfl (by decide) rfl rfl ?_
        refine r_iload_n C 79 2 rfl dX12_readRule_78 rfl ?_
        refine imp_jn (fun (j_10 : CH → Option (Unit × CH)) => ∀ (h_9 : CH), Imp κ 86 [(0, .ref (kad κ 151)), (1, .int (v_1)), (2, .int (s_7))] [] h_9 (j_10 h_9)) ?_ ?_
        · intro h_9
          refine r_aload_n C 87 0 rfl dX12_readRule_86 rfl ?_
          refine r_cVpI C 90 [] (ok_f_X12_isGood h_9) dX12_readRule_87 lvX12_239 kt_151 rfl rfl rfl (by decide) (Nat.le_of_ble_eq_true rfl) rfl rfl (Nat.le_of_ble_eq_true rfl) rfl rfl (fun v_11 => ?_)
          refine r_if_ne C 93 94 dX12_readRule_90 (by decide) rfl (fun c_12 => ?_) (fun c_12 => ?_)
          · exact r_vret C Rr dX12_readRule_93 (fun _ => rfl) rfl
          · refine r_aload_n C 95 0 rfl dX12_readRule_94 rfl ?_
            refine r_iload_n C 96 1 rfl dX12_readRule_95 rfl ?_
            refine r_putZ C 99 dX12_readRule_96 flX12_337 kt_151 rfl rfl (fun h_13 => ?_)
            refine r_aload_n C 100 0 rfl dX12_readRule_99 rfl ?_
            refine r_getR C 103 dX12_readRule_100 flX12_80 kt_151 rfl rf_151_33 rfl ?_
            refine r_iload_n C 104 2 rfl dX12_readRule_103 rfl ?_
            refine r_aload_n C 105 0 rfl dX12_readRule_104 rfl ?_
            refine r_getI C 108 dX12_readRule_105 flX12_316 kt_151 rfl rfl ?_
            refine r_iast C 109 dX12_readRule_108 kt_173 rfl rfl (fun h_14 => ?_)
            refine r_aload_n C 110 0 rfl dX12_readRule_109 rfl ?_
            refine r_cViV C 113 [] (ok_f_X12_e h_14) dX12_readRule_110 lvX12_340 kt_151 rfl rfl rfl (by decide) (Nat.le_of_ble_eq_true rfl) rfl rfl (Nat.le_of_ble_eq_true rfl) rfl rfl (fun _ h_15 => ?_)
            refine r_aload_n C 114 0 rfl dX12_readRule_113 rfl ?_
            refine r_getR C 117 dX12_readRule_114 flX12_83 kt_151 rfl rf_151_34 rfl ?_
            refine r_iload_n C 118 2 rfl dX12_readRule_117 rfl ?_
            refine r_aload_n C 119 0 rfl dX12_readRule_118 rfl ?_
            refine r_getI C 122 dX12_readRule_119 flX12_316 kt_151 rfl rfl ?_
            refine r_iast C 123 dX12_readRule_122 kt_174 rfl rfl (fun h_16 => ?_)
            refine r_aload_n C 124 0 rfl dX12_readRule_123 rfl ?_
            refine r_aload_n C 125 0 rfl dX12_readRule_124 rfl ?_
            refine r_getI C 128 dX12_readRule_125 flX12_328 kt_151 rfl rfl ?_
            refine imp_jn (fun (j_18 : Int32 → Option (Unit × CH)) => ∀ (s_17 : Int32), Imp κ 140 [(0, .ref (kad κ 151)), (1, .int (v_1))] [.int (s_17), .ref (kad κ 151)] h_16 (j_18 s_17)) ?_ ?_
            · intro s_17
              refine r_putZ C 143 dX12_readRule_140 flX12_328 kt_151 rfl rfl (fun h_19 => ?_)
              refine r_aload_n C 144 0 rfl dX12_readRule_143 rfl ?_
              refine r_dup C 145 rfl dX12_readRule_144 rfl ?_
              refine r_getI C 148 dX12_readRule_145 flX12_322 kt_151 rfl rfl ?_
              refine r_iload_n C 149 1 rfl dX12_readRule_148 rfl ?_
              refine imp_jn (fun (j_22 : Int32 → Int32 → Option (Unit × CH)) => ∀ (s_20 : Int32) (s_21 : Int32), Imp κ 157 [(0, .ref (kad κ 151))] [.int (s_20), .int (s_21), .ref (kad κ 151)] h_19 (j_22 s_20 s_21)) ?_ ?_
              · intro s_20 s_21
                refine r_iadd C 158 dX12_readRule_157 rfl ?_
                refine r_putI C 161 dX12_readRule_158 flX12_322 kt_151 rfl rfl (fun h_23 => ?_)
                refine r_aload_n C 162 0 rfl dX12_readRule_161 rfl ?_
                refine r_dup C 163 rfl dX12_readRule_162 rfl ?_
                refine r_getI C 166 dX12_readRule_163 flX12_325 kt_151 rfl rfl ?_
                refine r_iconst C 167 (nI 1) (by decide) dX12_readRule_166 rfl ?_
                refine r_iadd C 168 dX12_readRule_167 rfl ?_
                refine r_putI C 171 dX12_readRule_168 flX12_325 kt_151 rfl rfl (fun h_24 => ?_)
                refine r_aload_n C 172 0 rfl dX12_readRule_171 rfl ?_
                refine r_aload_n C 173 0 rfl dX12_readRule_172 rfl ?_
                refine r_bipush C 175 (nI 59) (by decide) dX12_readRule_173 rfl ?_
                refine r_cVpI C 178 [.ref (kad κ 151)] (ok_f_X12_is ((nI 59)) h_24) dX12_readRule_175 lvX12_302 kt_151 rfl rfl rfl (by decide) (Nat.le_of_ble_eq_true rfl) rfl rfl (Nat.le_of_ble_eq_true rfl) rfl rfl (fun v_25 => ?_)
                refine r_cViV C 181 [] (ok_f_X12_must v_25 h_24) dX12_readRule_178 lvX12_252 kt_151 rfl rfl rfl (by decide) (Nat.le_of_ble_eq_true rfl) rfl rfl (Nat.le_of_ble_eq_true rfl) rfl rfl (fun _ h_26 => ?_)
                exact r_vret C Rr dX12_readRule_181 (fun _ => rfl) rfl
              · intro j_22 hj_22
                refine r_if_eq C 152 156 dX12_readRule_149 (by decide) rfl (fun c_27 => ?_) (fun c_27 => ?_)
                · refine r_iconst C 157 (nI 1) (by decide) dX12_readRule_156 rfl ?_
                  exact imp_sub [(0, .ref (kad κ 151))] [0] rfl (hj_22 ((nI 1)) (h_19.1 151 41))
                · refine r_iconst C 153 (nI 0) (by decide) dX12_readRule_152 rfl ?_
                  refine r_goto C 157 dX12_readRule_153 (by decide) ?_
                  exact imp_sub [(0, .ref (kad κ 151))] [0] rfl (hj_22 ((nI 0)) (h_19.1 151 41))
            · intro j_18 hj_18
              refine imp_jn (fun (j_28 : Option (Unit × CH)) =>  Imp κ 135 [(0, .ref (kad κ 151)), (1, .int (v_1))] [.ref (kad κ 151)] h_16 (j_28)) ?_ ?_
              · refine r_iconst C 136 (nI 1) (by decide) dX12_readRule_135 rfl ?_
                refine r_goto C 140 dX12_readRule_136 (by decide) ?_
                exact imp_sub [(0, .ref (kad κ 151)), (1, .int (v_1))] [0, 1] rfl (hj_18 ((nI 1)))
              · intro j_28 hj_28
                refine r_if_ne C 131 135 dX12_readRule_128 (by decide) rfl (fun c_29 => ?_) (fun c_29 => ?_)
                · refine r_iload_n C 132 1 rfl dX12_readRule_131 rfl ?_
                  refine r_if_eq C 135 139 dX12_readRule_132 (by decide) rfl (fun c_30 => ?_) (fun c_30 => ?_)
                  · refine r_iconst C 140 (nI 0) (by decide) dX12_readRule_139 rfl ?_
                    exact imp_sub [(0, .ref (kad κ 151)), (1, .int (v_1))] [0, 1] rfl (hj_18 ((nI 0)))
                  · exact imp_sub [(0, .ref (kad κ 151)), (1, .int (v_1))] [0, 1] rfl (hj_28)
                · exact imp_sub [(0, .ref (kad κ 151)), (1, .int (v_1))] [0, 1] rfl (hj_28)
        · intro j_10 hj_10
          refine r_if_ne C 82 86 dX12_readRule_79 (by decide) rfl (fun c_31 => ?_) (fun c_31 => ?_)
          · refine r_aload_n C 83 1 rfl dX12_readRule_82 rfl ?_
            refine r_cViV C 86 [] (ok_f_X12_readSignName h_6) dX12_readRule_83 lvX12_334 kt_151 rfl rfl rfl (by decide) (Nat.le_of_ble_eq_true rfl) rfl rfl (Nat.le_of_ble_eq_true rfl) rfl rfl (fun _ h_32 => ?_)
            exact imp_sub [(0, .ref (kad κ 151)), (1, .int (v_1)), (2, .int (s_7))] [1, 2, 0] rfl (hj_10 h_32)
          · exact imp_sub [(0, .ref (kad κ 151)), (1, .int (v_1)), (2, .int (s_7))] [1, 2, 0] rfl (hj_10 h_6)
      · intro j_8 hj_8
        refine r_if_eq C 65 70 dX12_readRule_62 (by decide) rfl (fun c_33 => ?_) (fun c_33 => ?_)
        · refine r_bipush C 72 (nI 8) (by decide) dX12_readRule_70 rfl ?_
          refine r_aload_n C 73 0 rfl dX12_readRule_72 rfl ?_
          refine r_getI C 76 dX12_readRule_73 flX12_322 kt_151 rfl rfl ?_
          refine r_iadd C 77 dX12_readRule_76 rfl ?_
          exact imp_sub [(0, .ref (kad κ 151)), (1, .int (v_1))] [0, 1] rfl (hj_8 (((nI 8)) + (h_6.1 151 41)))
        · refine r_bipush C 67 (nI 7) (by decide) dX12_readRule_65 rfl ?_
          refine r_goto C 77 dX12_readRule_67 (by decide) ?_
          exact imp_sub [(0, .ref (kad κ 151)), (1, .int (v_1))] [0, 1] rfl (hj_8 ((nI 7)))
  · intro j_3 hj_3
    refine imp_jn (fun (j_34 : Option (Unit × CH)) =>  Imp κ 45 [(0, .ref (kad κ 151)), (1, .int (v_1))] [] h (j_34)) ?_ ?_
    · refine r_aload_n C 46 0 rfl dX12_readRule_45 rfl ?_
      refine r_cViV C 49 [] (ok_f_X12_misplaced h) dX12_readRule_46 lvX12_246 kt_151 rfl rfl rfl (by decide) (Nat.le_of_ble_eq_true rfl) rfl rfl (Nat.le_of_ble_eq_true rfl) rfl rfl (fun _ h_35 => ?_)
      exact imp_sub [(0, .ref (kad κ 151)), (1, .int (v_1))] [0, 1] rfl (hj_3 h_35)
    · intro j_34 hj_34
      refine imp_jn (fun (j_36 : Option (Unit × CH)) =>  Imp κ 22 [(0, .ref (kad κ 151)), (1, .int (v_1))] [] h (j_36)) ?_ ?_
      · refine r_iload_n C 23 1 rfl dX12_readRule_22 rfl ?_
        refine r_if_eq C 26 36 dX12_readRule_23 (by decide) rfl (fun c_37 => ?_) (fun c_37 => ?_)
        · refine r_aload_n C 37 0 rfl dX12_readRule_36 rfl ?_
          refine r_getI C 40 dX12_readRule_37 flX12_322 kt_151 rfl rfl ?_
          refine r_bipush C 42 (nI 6) (by decide) dX12_readRule_40 rfl ?_
          refine r_icmp_ne C 45 49 dX12_readRule_42 (by decide) rfl (fun c_38 => ?_) (fun c_38 => ?_)
          · exact imp_sub [(0, .ref (kad κ 151)), (1, .int (v_1))] [0, 1] rfl (hj_34)
          · exact imp_sub [(0, .ref (kad κ 151)), (1, .int (v_1))] [0, 1] rfl (hj_3 h)
        · refine r_aload_n C 27 0 rfl dX12_readRule_26 rfl ?_
          refine r_getI C 30 dX12_readRule_27 flX12_328 kt_151 rfl rfl ?_
          refine r_if_eq C 33 49 dX12_readRule_30 (by decide) rfl (fun c_39 => ?_) (fun c_39 => ?_)
          · exact imp_sub [(0, .ref (kad κ 151)), (1, .int (v_1))] [0, 1] rfl (hj_3 h)
          · refine r_goto C 45 dX12_readRule_33 (by decide) ?_
            exact imp_sub [(0, .ref (kad κ 151)), (1, .int (v_1))] [0, 1] rfl (hj_34)
      · intro j_36 hj_36
        refine r_if_ne C 12 22 dX12_readRule_9 (by decide) rfl (fun c_40 => ?_) (fun c_40 => ?_)
        · refine r_aload_n C 13 1 rfl dX12_readRule_12 rfl ?_
          refine r_ldc2 C 16 lcX12_171 dX12_readRule_13 rfl ?_
          refine r_cVpI C 19 [] (ok_f_X12_isWord 1936287598 h) dX12_readRule_16 lvX12_249 kt_151 rfl rfl rfl (by decide) (Nat.le_of_ble_eq_true rfl) rfl rfl (Nat.le_of_ble_eq_true rfl) rfl rfl (fun v_41 => ?_)
          refine r_if_eq C 22 45 dX12_readRule_19 (by decide) rfl (fun c_42 => ?_) (fun c_42 => ?_)
          · exact imp_sub [(0, .ref (kad κ 151)), (1, .int (v_1))] [1, 0] rfl (hj_34)
          · exact imp_sub [(0, .ref (kad κ 151)), (1, .int (v_1))] [1, 0] rfl (hj_36)
        · exact imp_sub [(0, .ref (kad κ 151)), (1, .int (v_1))] [1, 0] rfl (hj_36)
set_option maxHeartbeats 4000000 in
theorem ok_f_X12_readRule   (h : CH) : ∀ q, f_X12_readRule h = some q → MG yX12_readRule cX12_readRule 3 none [] 6 (fun ad => [.ref (ad 151)]) h ((fun (_ : Unit × CH) (_ : Nat → Nat) => (none : Option Value)) q) ((fun (q : (Unit × CH)) => q.2) q) := mg_of RX12 (by decide) rfl (fun _ => Nat.le_of_ble_eq_true rfl) (fun κ C Rr => imp_f_X12_readRule C  h Rr)
set_option maxHeartbeats 4000000 in
set_option maxRecDepth 100000 in
theorem imp_f_X12_rules_L81 {κ : Kx (Int32 × CH)} (C : Cx κ cX12_rules RX12 2 7 (40 * 7) [])   (k126 : CH → Option (Int32 × CH)) (hk126 : ∀ (h_13 : CH), Imp κ 126 [(0, .ref (kad κ 151))] [] h_13 (k126 h_13)) (Rr : Rt κ (some .int) (fun (q : Int32 × CH) (_ : Nat → Nat) => some (Value.int q.1)) (fun (q : (Int32 × CH)) => q.2)) : ∀ (n : Nat) (x1 : Int32) (h : CH), Imp κ 81 [(0, .ref (kad κ 151)), (1, .int (x1))] [] h (f_X12_rules_L81 k126 n x1 h) := by
  intro n
  induction n with
  | zero => intros; exact imp_none
  | succ n ih =>
    intro x1 h
    rw [f_X12_rules_L81]
    refine r_iload_n C 82 1 rfl dX12_rules_81 rfl ?_
    refine r_sipush C 85 (nI 400) (by decide) dX12_rules_82 rfl ?_
    refine r_icmp_ge C 88 126 dX12_rules_85 (by decide) rfl (fun c_14 => ?_) (fun c_14 => ?_)
    · refine r_aload_n C 89 0 rfl dX12_rules_88 rfl ?_
      refine r_getR C 92 dX12_rules_89 flX12_65 kt_151 rfl rf_151_28 rfl ?_
      refine r_iload_n C 93 1 rfl dX12_rules_92 rfl ?_
      refine r_aload_n C 94 0 rfl dX12_rules_93 rfl ?_
      refine r_getR C 97 dX12_rules_94 flX12_65 kt_151 rfl rf_151_28 rfl ?_
      refine r_sipush C 100 (nI 400) (by decide) dX12_rules_97 rfl ?_
      refine r_iload_n C 101 1 rfl dX12_rules_100 rfl ?_
      refine r_iadd C 102 dX12_rules_101 rfl ?_
      refine r_iald C 103 dX12_rules_102 kt_168 rfl rfl (fun v_15 => ?_)
      refine r_iast C 104 dX12_rules_103 kt_168 rfl rfl (fun h_16 => ?_)
      refine r_aload_n C 105 0 rfl dX12_rules_104 rfl ?_
      refine r_getR C 108 dX12_rules_105 flX12_68 kt_151 rfl rf_151_29 rfl ?_
      refine r_iload_n C 109 1 rfl dX12_rules_108 rfl ?_
      refine r_aload_n C 110 0 rfl dX12_rules_109 rfl ?_
      refine r_getR C 113 dX12_rules_110 flX12_68 kt_151 rfl rf_151_29 rfl ?_
      refine r_sipush C 116 (nI 400) (by decide) dX12_rules_113 rfl ?_
      refine r_iload_n C 117 1 rfl dX12_rules_116 rfl ?_
      refine r_iadd C 118 dX12_rules_117 rfl ?_
      refine r_iald C 119 dX12_rules_118 kt_169 rfl rfl (fun v_17 => ?_)
      refine r_iast C 120 dX12_rules_119 kt_169 rfl rfl (fun h_18 => ?_)
      refine r_iinc C 123 1 (nI 1) [(1, .int (x1 + (nI 1))), (0, .ref (kad κ 151))] dX12_rules_120 rfl (by decide) (by decide) rfl rfl ?_
      refine r_goto C 81 dX12_rules_123 (by decide) ?_
      exact imp_sub [(0, .ref (kad κ 151)), (1, .int (x1 + (nI 1)))] [1, 0] rfl (ih (x1 + (nI 1)) h_18)
    · exact imp_sub [(0, .ref (kad κ 151))] [0] rfl (hk126 h)
set_option maxHeartbeats 4000000 in
set_option maxRecDepth 100000 in
theorem imp_f_X12_rules_L128 {κ : Kx (Int32 × CH)} (C : Cx κ cX12_rules RX12 2 7 (40 * 7) [])   (k178 : CH → Option (Int32 × CH)) (hk178 : ∀ (h_19 : CH), Imp κ 178 [(0, .ref (kad κ 151))] [] h_19 (k178 h_19)) (Rr : Rt κ (some .int) (fun (q : Int32 × CH) (_ : Nat → Nat) => some (Value.int q.1)) (fun (q : (Int32 × CH)) => q.2)) : ∀ (n : Nat) (x1 : Int32) (h : CH), Imp κ 128 [(0, .ref (kad κ 151)), (1, .int (x1))] [] h (f_X12_rules_L128 k178 n x1 h) := by
  intro n
  induction n with
  | zero => intros; exact imp_none
  | succ n ih =>
    intro x1 h
    rw [f_X12_rules_L128]
    refine r_iload_n C 129 1 rfl dX12_rules_128 rfl ?_
    refine r_bipush C 131 (nI 7) (by decide) dX12_rules_129 rfl ?_
    refine r_icmp_ge C 134 178 dX12_rules_131 (by decide) rfl (fun c_20 => ?_) (fun c_20 => ?_)
    · refine r_aload_n C 135 0 rfl dX12_rules_134 rfl ?_
      refine r_getR C 138 dX12_rules_135 flX12_80 kt_151 rfl rf_151_33 rfl ?_
      refine r_iload_n C 139 1 rfl dX12_rules_138 rfl ?_
      refine r_aload_n C 140 0 rfl dX12_rules_139 rfl ?_
      refine r_getR C 143 dX12_rules_140 flX12_80 kt_151 rfl rf_151_33 rfl ?_
      refine r_bipush C 145 (nI 7) (by decide) dX12_rules_143 rfl ?_
      refine r_iload_n C 146 1 rfl dX12_rules_145 rfl ?_
      refine r_iadd C 147 dX12_rules_146 rfl ?_
      refine r_iald C 148 dX12_rules_147 kt_173 rfl rfl (fun v_21 => ?_)
      refine r_sipush C 151 (nI 400) (by decide) dX12_rules_148 rfl ?_
      refine r_isub C 152 dX12_rules_151 rfl ?_
      refine r_iast C 153 dX12_rules_152 kt_173 rfl rfl (fun h_22 => ?_)
      refine r_aload_n C 154 0 rfl dX12_rules_153 rfl ?_
      refine r_getR C 157 dX12_rules_154 flX12_83 kt_151 rfl rf_151_34 rfl ?_
      refine r_iload_n C 158 1 rfl dX12_rules_157 rfl ?_
      refine r_aload_n C 159 0 rfl dX12_rules_158 rfl ?_
      refine r_getR C 162 dX12_rules_159 flX12_83 kt_151 rfl rf_151_34 rfl ?_
      refine r_bipush C 164 (nI 7) (by decide) dX12_rules_162 rfl ?_
      refine r_iload_n C 165 1 rfl dX12_rules_164 rfl ?_
      refine r_iadd C 166 dX12_rules_165 rfl ?_
      refine r_iald C 167 dX12_rules_166 kt_174 rfl rfl (fun v_23 => ?_)
      refine r_sipush C 170 (nI 400) (by decide) dX12_rules_167 rfl ?_
      refine r_isub C 171 dX12_rules_170 rfl ?_
      refine r_iast C 172 dX12_rules_171 kt_174 rfl rfl (fun h_24 => ?_)
      refine r_iinc C 175 1 (nI 1) [(1, .int (x1 + (nI 1))), (0, .ref (kad κ 151))] dX12_rules_172 rfl (by decide) (by decide) rfl rfl ?_
      refine r_goto C 128 dX12_rules_175 (by decide) ?_
      exact imp_sub [(0, .ref (kad κ 151)), (1, .int (x1 + (nI 1)))] [1, 0] rfl (ih (x1 + (nI 1)) h_24)
    · exact imp_sub [(0, .ref (kad κ 151))] [0] rfl (hk178 h)
set_option maxHeartbeats 4000000 in
set_option maxRecDepth 100000 in
theorem imp_f_X12_rules_L49 {κ : Kx (Int32 × CH)} (C : Cx κ cX12_rules RX12 2 7 (40 * 7) [])     (Rr : Rt κ (some .int) (fun (q : Int32 × CH) (_ : Nat → Nat) => some (Value.int q.1)) (fun (q : (Int32 × CH)) => q.2)) : ∀ (n : Nat)  (h : CH), Imp κ 49 [(0, .ref (kad κ 151))] [] h (f_X12_rules_L49 n h) := by
  intro n
  induction n with
  | zero => intros; exact imp_none
  | succ n ih =>
    intro h
    rw [f_X12_rules_L49]
    refine r_aload_n C 50 0 rfl dX12_rules_49 rfl ?_
    refine r_cVpI C 53 [] (ok_f_X12_isGood h) dX12_rules_50 lvX12_239 kt_151 rfl rfl rfl (by decide) (Nat.le_of_ble_eq_true rfl) rfl rfl (Nat.le_of_ble_eq_true rfl) rfl rfl (fun v_9 => ?_)
    refine imp_jn (fun (j_10 : Option (Int32 × CH)) =>  Imp κ 70 [(0, .ref (kad κ 151))] [] h (j_10)) ?_ ?_
    · refine r_aload_n C 71 0 rfl dX12_rules_70 rfl ?_
      refine r_cVpI C 74 [] (ok_f_X12_isGood h) dX12_rules_71 lvX12_239 kt_151 rfl rfl rfl (by decide) (Nat.le_of_ble_eq_true rfl) rfl rfl (Nat.le_of_ble_eq_true rfl) rfl rfl (fun v_11 => ?_)
      refine r_if_ne C 77 79 dX12_rules_74 (by decide) rfl (fun c_12 => ?_) (fun c_12 => ?_)
      · refine r_iconst C 78 (-1) (by decide) dX12_rules_77 rfl ?_
        exact r_iret C Rr dX12_rules_78 (fun _ => rfl) rfl
      · refine r_iconst C 80 (nI 0) (by decide) dX12_rules_79 rfl ?_
        refine r_istore_n C 81 1 [(1, .int ((nI 0))), (0, .ref (kad κ 151))] dX12_rules_80 rfl (by decide) rfl rfl ?_
        refine imp_sub [(0, .ref (kad κ 151)), (1, .int ((nI 0)))] [1, 0] rfl ?_
        refine imp_f_X12_rules_L81 C _ ?_ Rr FU ((nI 0)) h
        · intro h_13
          refine r_iconst C 127 (nI 0) (by decide) dX12_rules_126 rfl ?_
          refine r_istore_n C 128 1 [(1, .int ((nI 0))), (0, .ref (kad κ 151))] dX12_rules_127 rfl (by decide) rfl rfl ?_
          refine imp_sub [(0, .ref (kad κ 151)), (1, .int ((nI 0)))] [1, 0] rfl ?_
          refine imp_f_X12_rules_L128 C _ ?_ Rr FU ((nI 0)) h_13
          · intro h_19
            refine r_aload_n C 179 0 rfl dX12_rules_178 rfl ?_
            refine r_aload_n C 180 0 rfl dX12_rules_179 rfl ?_
            refine r_getI C 183 dX12_rules_180 flX12_328 kt_151 rfl rfl ?_
            refine r_putZ C 186 dX12_rules_183 flX12_287 kt_151 rfl rfl (fun h_25 => ?_)
            refine r_aload_n C 187 0 rfl dX12_rules_186 rfl ?_
            refine r_aload_n C 188 0 rfl dX12_rules_187 rfl ?_
            refine r_getI C 191 dX12_rules_188 flX12_322 kt_151 rfl rfl ?_
            refine r_putI C 194 dX12_rules_191 flX12_281 kt_151 rfl rfl (fun h_26 => ?_)
            refine r_aload_n C 195 0 rfl dX12_rules_194 rfl ?_
            refine r_aload_n C 196 0 rfl dX12_rules_195 rfl ?_
            refine r_getI C 199 dX12_rules_196 flX12_319 kt_151 rfl rfl ?_
            refine r_putI C 202 dX12_rules_199 flX12_284 kt_151 rfl rfl (fun h_27 => ?_)
            refine r_aload_n C 203 0 rfl dX12_rules_202 rfl ?_
            refine r_aload_n C 204 0 rfl dX12_rules_203 rfl ?_
            refine r_getI C 207 dX12_rules_204 flX12_325 kt_151 rfl rfl ?_
            refine r_putI C 210 dX12_rules_207 flX12_278 kt_151 rfl rfl (fun h_28 => ?_)
            refine r_aload_n C 211 0 rfl dX12_rules_210 rfl ?_
            refine r_getI C 214 dX12_rules_211 flX12_278 kt_151 rfl rfl ?_
            exact r_iret C Rr dX12_rules_214 (fun _ => rfl) rfl
    · intro j_10 hj_10
      refine r_if_eq C 56 70 dX12_rules_53 (by decide) rfl (fun c_29 => ?_) (fun c_29 => ?_)
      · exact imp_sub [(0, .ref (kad κ 151))] [0] rfl (hj_10)
      · refine r_aload_n C 57 0 rfl dX12_rules_56 rfl ?_
        refine r_getI C 60 dX12_rules_57 flX12_211 kt_151 rfl rfl ?_
        refine r_if_eq C 63 70 dX12_rules_60 (by decide) rfl (fun c_30 => ?_) (fun c_30 => ?_)
        · exact imp_sub [(0, .ref (kad κ 151))] [0] rfl (hj_10)
        · refine r_aload_n C 64 0 rfl dX12_rules_63 rfl ?_
          refine r_cViV C 67 [] (ok_f_X12_readRule h) dX12_rules_64 lvX12_331 kt_151 rfl rfl rfl (by decide) (Nat.le_of_ble_eq_true rfl) rfl rfl (Nat.le_of_ble_eq_true rfl) rfl rfl (fun _ h_31 => ?_)
          refine r_goto C 49 dX12_rules_67 (by decide) ?_
          exact imp_sub [(0, .ref (kad κ 151))] [0] rfl (ih h_31)
set_option maxHeartbeats 4000000 in
set_option maxRecDepth 100000 in
theorem imp_f_X12_rules {κ : Kx (Int32 × CH)} (C : Cx κ cX12_rules RX12 2 7 (40 * 7) [])   (h : CH) (Rr : Rt κ (some .int) (fun (q : Int32 × CH) (_ : Nat → Nat) => some (Value.int q.1)) (fun (q : (Int32 × CH)) => q.2)) : Imp κ 0 [(0, .ref (kad κ 151))] [] h (f_X12_rules h) := by
  unfold f_X12_rules
  refine r_aload_n C 1 0 rfl dX12_rules_0 rfl ?_
  refine r_getI C 4 dX12_rules_1 flX12_260 kt_151 rfl rfl ?_
  refine r_sipush C 7 (nI 800) (by decide) dX12_rules_4 rfl ?_
  refine r_icmp_le C 10 13 dX12_rules_7 (by decide) rfl (fun c_1 => ?_) (fun c_1 => ?_)
  · refine r_bipush C 12 (-2) (by decide) dX12_rules_10 rfl ?_
    exact r_iret C Rr dX12_rules_12 (fun _ => rfl) rfl
  · refine r_aload_n C 14 0 rfl dX12_rules_13 rfl ?_
    refine r_iconst C 15 (nI 1) (by decide) dX12_rules_14 rfl ?_
    refine r_cViV C 18 [] (ok_f_X12_takeTape ((nI 1)) h) dX12_rules_15 lvX12_266 kt_151 rfl rfl rfl (by decide) (Nat.le_of_ble_eq_true rfl) rfl rfl (Nat.le_of_ble_eq_true rfl) rfl rfl (fun _ h_2 => ?_)
    refine r_aload_n C 19 0 rfl dX12_rules_18 rfl ?_
    refine r_sipush C 22 (nI 400) (by decide) dX12_rules_19 rfl ?_
    refine r_putI C 25 dX12_rules_22 flX12_316 kt_151 rfl rfl (fun h_3 => ?_)
    refine r_aload_n C 26 0 rfl dX12_rules_25 rfl ?_
    refine r_iconst C 27 (nI 0) (by decide) dX12_rules_26 rfl ?_
    refine r_putI C 30 dX12_rules_27 flX12_319 kt_151 rfl rfl (fun h_4 => ?_)
    refine r_aload_n C 31 0 rfl dX12_rules_30 rfl ?_
    refine r_iconst C 32 (nI 0) (by decide) dX12_rules_31 rfl ?_
    refine r_putI C 35 dX12_rules_32 flX12_322 kt_151 rfl rfl (fun h_5 => ?_)
    refine r_aload_n C 36 0 rfl dX12_rules_35 rfl ?_
    refine r_iconst C 37 (nI 0) (by decide) dX12_rules_36 rfl ?_
    refine r_putI C 40 dX12_rules_37 flX12_325 kt_151 rfl rfl (fun h_6 => ?_)
    refine r_aload_n C 41 0 rfl dX12_rules_40 rfl ?_
    refine r_iconst C 42 (nI 0) (by decide) dX12_rules_41 rfl ?_
    refine r_putZ C 45 dX12_rules_42 flX12_328 kt_151 rfl rfl (fun h_7 => ?_)
    refine r_aload_n C 46 0 rfl dX12_rules_45 rfl ?_
    refine r_cViV C 49 [] (ok_f_X12_goOn h_7) dX12_rules_46 lvX12_243 kt_151 rfl rfl rfl (by decide) (Nat.le_of_ble_eq_true rfl) rfl rfl (Nat.le_of_ble_eq_true rfl) rfl rfl (fun _ h_8 => ?_)
    refine imp_sub [(0, .ref (kad κ 151))] [0] rfl ?_
    refine imp_f_X12_rules_L49 C Rr FU h_8
set_option maxHeartbeats 4000000 in
theorem ok_f_X12_rules   (h : CH) : ∀ q, f_X12_rules h = some q → MG yX12_rules cX12_rules 2 (some .int) [] 7 (fun ad => [.ref (ad 151)]) h ((fun (q : Int32 × CH) (_ : Nat → Nat) => some (Value.int q.1)) q) ((fun (q : (Int32 × CH)) => q.2) q) := mg_of RX12 (by decide) rfl (fun _ => Nat.le_of_ble_eq_true rfl) (fun κ C Rr => imp_f_X12_rules C  h Rr)
set_option maxHeartbeats 4000000 in
set_option maxRecDepth 100000 in
theorem imp_f_X12_many {κ : Kx Int32} (C : Cx κ cX12_many RX12 1 1 (40 * 1) [])   (h : CH) (Rr : Rt κ (some .int) (fun (x : Int32) (_ : Nat → Nat) => some (Value.int x)) (fun (_ : Int32) => h)) : Imp κ 0 [(0, .ref (kad κ 151))] [] h (f_X12_many h) := by
  unfold f_X12_many
  refine r_aload_n C 1 0 rfl dX12_many_0 rfl ?_
  refine r_getR C 4 dX12_many_1 flX12_24 kt_151 rfl rf_151_13 rfl ?_
  refine r_aload_n C 5 0 rfl dX12_many_4 rfl ?_
  refine r_getI C 8 dX12_many_5 flX12_269 kt_151 rfl rfl ?_
  refine r_iald C 9 dX12_many_8 kt_155 rfl rfl (fun v_1 => ?_)
  exact r_iret C Rr dX12_many_9 (fun _ => rfl) rfl
set_option maxHeartbeats 4000000 in
theorem ok_f_X12_many   (h : CH) : ∀ q, f_X12_many h = some q → MG yX12_many cX12_many 1 (some .int) [] 1 (fun ad => [.ref (ad 151)]) h ((fun (x : Int32) (_ : Nat → Nat) => some (Value.int x)) q) ((fun (_ : Int32) => h) q) := mg_of RX12 (by decide) rfl (fun _ => Nat.le_of_ble_eq_true rfl) (fun κ C Rr => imp_f_X12_many C  h Rr)
set_option maxHeartbeats 4000000 in
set_option maxRecDepth 100000 in
theorem imp_f_X12_isIn {κ : Kx Int32} (C : Cx κ cX12_isIn RX12 3 1 (40 * 1) []) (x0 : Int32) (x1 : Int32) (x2 : Int32)  (h : CH) (Rr : Rt κ (some .boolean) (fun (x : Int32) (_ : Nat → Nat) => some (Value.int x)) (fun (_ : Int32) => h)) : Imp κ 0 [(0, .int (x0)), (1, .int (x1)), (2, .int (x2))] [] h (f_X12_isIn x0 x1 x2 h) := by
  unfold f_X12_isIn
  refine r_iload_n C 1 0 rfl dX12_isIn_0 rfl ?_
  refine r_iload_n C 2 1 rfl dX12_isIn_1 rfl ?_
  refine r_icmp_lt C 5 14 dX12_isIn_2 (by decide) rfl (fun c_1 => ?_) (fun c_1 => ?_)
  · refine r_iconst C 15 (nI 0) (by decide) dX12_isIn_14 rfl ?_
    exact r_zret C Rr (by decide) dX12_isIn_15 (fun _ => rfl) rfl
  · refine r_iload_n C 6 0 rfl dX12_isIn_5 rfl ?_
    refine r_iload_n C 7 2 rfl dX12_isIn_6 rfl ?_
    refine r_icmp_gt C 10 14 dX12_isIn_7 (by decide) rfl (fun c_2 => ?_) (fun c_2 => ?_)
    · refine r_iconst C 15 (nI 0) (by decide) dX12_isIn_14 rfl ?_
      exact r_zret C Rr (by decide) dX12_isIn_15 (fun _ => rfl) rfl
    · refine r_iconst C 11 (nI 1) (by decide) dX12_isIn_10 rfl ?_
      refine r_goto C 15 dX12_isIn_11 (by decide) ?_
      exact r_zret C Rr (by decide) dX12_isIn_15 (fun _ => rfl) rfl
set_option maxHeartbeats 4000000 in
theorem ok_f_X12_isIn (x0 : Int32) (x1 : Int32) (x2 : Int32)  (h : CH) : ∀ q, f_X12_isIn x0 x1 x2 h = some q → MG yX12_isIn cX12_isIn 3 (some .boolean) [] 1 (fun ad => [.int x0, .int x1, .int x2]) h ((fun (x : Int32) (_ : Nat → Nat) => some (Value.int x)) q) ((fun (_ : Int32) => h) q) := mg_of RX12 (by decide) rfl (fun _ => Nat.le_of_ble_eq_true rfl) (fun κ C Rr => imp_f_X12_isIn C x0 x1 x2 h Rr)
set_option maxHeartbeats 4000000 in
set_option maxRecDepth 100000 in
theorem imp_f_X12_isFace {κ : Kx Int32} (C : Cx κ cX12_isFace RX12 2 2 (40 * 2) []) (x1 : Int32)  (h : CH) (Rr : Rt κ (some .boolean) (fun (x : Int32) (_ : Nat → Nat) => some (Value.int x)) (fun (_ : Int32) => h)) : Imp κ 0 [(0, .ref (kad κ 151)), (1, .int (x1))] [] h (f_X12_isFace x1 h) := by
  unfold f_X12_isFace
  refine r_iload_n C 1 1 rfl dX12_isFace_0 rfl ?_
  refine r_iconst C 2 (nI 0) (by decide) dX12_isFace_1 rfl ?_
  refine r_aload_n C 3 0 rfl dX12_isFace_2 rfl ?_
  refine r_cVpI C 6 [.int ((nI 0)), .int (x1)] (ok_f_X12_many h) dX12_isFace_3 lvX12_399 kt_151 rfl rfl rfl (by decide) (Nat.le_of_ble_eq_true rfl) rfl rfl (Nat.le_of_ble_eq_true rfl) rfl rfl (fun v_1 => ?_)
  refine r_iconst C 7 (nI 1) (by decide) dX12_isFace_6 rfl ?_
  refine r_isub C 8 dX12_isFace_7 rfl ?_
  refine r_cSpI C 11 [] (ok_f_X12_isIn x1 ((nI 0)) ((v_1) - ((nI 1))) h) dX12_isFace_8 lsX12_402 rfl (by decide) (Nat.le_of_ble_eq_true rfl) rfl rfl (Nat.le_of_ble_eq_true rfl) rfl rfl (fun v_2 => ?_)
  exact r_zretg C Rr dX12_isFace_11 (fun _ => rfl) rfl
set_option maxHeartbeats 4000000 in
theorem ok_f_X12_isFace (x1 : Int32)  (h : CH) : ∀ q, f_X12_isFace x1 h = some q → MG yX12_isFace cX12_isFace 2 (some .boolean) [] 2 (fun ad => [.ref (ad 151), .int x1]) h ((fun (x : Int32) (_ : Nat → Nat) => some (Value.int x)) q) ((fun (_ : Int32) => h) q) := mg_of RX12 (by decide) rfl (fun _ => Nat.le_of_ble_eq_true rfl) (fun κ C Rr => imp_f_X12_isFace C x1 h Rr)
set_option maxHeartbeats 4000000 in
set_option maxRecDepth 100000 in
theorem imp_f_X12_pointMany {κ : Kx Int32} (C : Cx κ cX12_pointMany RX12 1 1 (40 * 1) [])   (h : CH) (Rr : Rt κ (some .int) (fun (x : Int32) (_ : Nat → Nat) => some (Value.int x)) (fun (_ : Int32) => h)) : Imp κ 0 [(0, .ref (kad κ 151))] [] h (f_X12_pointMany h) := by
  unfold f_X12_pointMany
  refine r_aload_n C 1 0 rfl dX12_pointMany_0 rfl ?_
  refine r_getR C 4 dX12_pointMany_1 flX12_20 kt_151 rfl rf_151_12 rfl ?_
  refine r_aload_n C 5 0 rfl dX12_pointMany_4 rfl ?_
  refine r_getI C 8 dX12_pointMany_5 flX12_269 kt_151 rfl rfl ?_
  refine r_iald C 9 dX12_pointMany_8 kt_154 rfl rfl (fun v_1 => ?_)
  exact r_iret C Rr dX12_pointMany_9 (fun _ => rfl) rfl
set_option maxHeartbeats 4000000 in
theorem ok_f_X12_pointMany   (h : CH) : ∀ q, f_X12_pointMany h = some q → MG yX12_pointMany cX12_pointMany 1 (some .int) [] 1 (fun ad => [.ref (ad 151)]) h ((fun (x : Int32) (_ : Nat → Nat) => some (Value.int x)) q) ((fun (_ : Int32) => h) q) := mg_of RX12 (by decide) rfl (fun _ => Nat.le_of_ble_eq_true rfl) (fun κ C Rr => imp_f_X12_pointMany C  h Rr)
set_option maxHeartbeats 4000000 in
set_option maxRecDepth 100000 in
theorem imp_f_X12_measureOf {κ : Kx Int32} (C : Cx κ cX12_measureOf RX12 6 1 (40 * 1) []) (x1 : Int32) (x2 : Int32) (x3 : Int32)  (h : CH) (Rr : Rt κ (some .int) (fun (x : Int32) (_ : Nat → Nat) => some (Value.int x)) (fun (_ : Int32) => h)) : Imp κ 0 [(0, .ref (kad κ 151)), (1, .int (x1)), (2, .int (x2)), (3, .int (x3))] [] h (f_X12_measureOf x1 x2 x3 h) := by
  unfold f_X12_measureOf
  refine r_aload_n C 1 0 rfl dX12_measureOf_0 rfl ?_
  refine r_getR C 4 dX12_measureOf_1 flX12_36 kt_151 rfl rf_151_17 rfl ?_
  refine r_bipush C 6 (nI 16) (by decide) dX12_measureOf_4 rfl ?_
  refine r_aload_n C 7 0 rfl dX12_measureOf_6 rfl ?_
  refine r_getI C 10 dX12_measureOf_7 flX12_269 kt_151 rfl rfl ?_
  refine r_imul C 11 dX12_measureOf_10 rfl ?_
  refine r_iload_n C 12 1 rfl dX12_measureOf_11 rfl ?_
  refine r_iadd C 13 dX12_measureOf_12 rfl ?_
  refine r_iald C 14 dX12_measureOf_13 kt_159 rfl rfl (fun v_1 => ?_)
  refine r_iload_n C 15 3 rfl dX12_measureOf_14 rfl ?_
  refine r_imul C 16 dX12_measureOf_15 rfl ?_
  refine r_bipush C 18 (nI 10) (by decide) dX12_measureOf_16 rfl ?_
  refine r_idivk C 19 (by decide) dX12_measureOf_18 rfl ?_
  refine r_istore C 21 [(4, .int (((v_1) * (x3)) / ((nI 10)))), (0, .ref (kad κ 151)), (1, .int (x1)), (2, .int (x2)), (3, .int (x3))] dX12_measureOf_19 (by decide) rfl rfl ?_
  refine r_aload_n C 22 1 rfl dX12_measureOf_21 rfl ?_
  refine r_getR C 25 dX12_measureOf_22 flX12_39 kt_151 rfl rf_151_18 rfl ?_
  refine r_bipush C 27 (nI 8) (by decide) dX12_measureOf_25 rfl ?_
  refine r_bipush C 29 (nI 16) (by decide) dX12_measureOf_27 rfl ?_
  refine r_aload_n C 30 1 rfl dX12_measureOf_29 rfl ?_
  refine r_getI C 33 dX12_measureOf_30 flX12_269 kt_151 rfl rfl ?_
  refine r_imul C 34 dX12_measureOf_33 rfl ?_
  refine r_iload_n C 35 2 rfl dX12_measureOf_34 rfl ?_
  refine r_iadd C 36 dX12_measureOf_35 rfl ?_
  refine r_imul C 37 dX12_measureOf_36 rfl ?_
  refine r_iload_n C 38 3 rfl dX12_measureOf_37 rfl ?_
  refine r_iadd C 39 dX12_measureOf_38 rfl ?_
  refine r_iald C 40 dX12_measureOf_39 kt_160 rfl rfl (fun v_2 => ?_)
  refine r_iload_n C 41 3 rfl dX12_measureOf_40 rfl ?_
  refine r_iconst C 42 (nI 2) (by decide) dX12_measureOf_41 rfl ?_
  refine r_iremk C 43 (by decide) dX12_measureOf_42 rfl ?_
  refine imp_jn (fun (j_5 : Int32 → Int32 → Option Int32) => ∀ (s_3 : Int32) (s_4 : Int32), Imp κ 54 [] [.int (s_3), .int (s_4)] h (j_5 s_3 s_4)) ?_ ?_
  · intro s_3 s_4
    refine r_iadd C 55 dX12_measureOf_54 rfl ?_
    refine r_istore C 57 [(5, .int ((s_4) + (s_3)))] dX12_measureOf_55 (by decide) rfl rfl ?_
    refine r_iload C 59 0 rfl dX12_measureOf_57 rfl ?_
    refine r_if_ge C 62 66 dX12_measureOf_59 (by decide) rfl (fun c_6 => ?_) (fun c_6 => ?_)
    · refine r_iconst C 63 (nI 0) (by decide) dX12_measureOf_62 rfl ?_
      refine r_goto C 80 dX12_measureOf_63 (by decide) ?_
      exact r_iret C Rr dX12_measureOf_80 (fun _ => rfl) rfl
    · refine r_iload C 68 0 rfl dX12_measureOf_66 rfl ?_
      refine r_bipush C 70 (nI 99) (by decide) dX12_measureOf_68 rfl ?_
      refine r_icmp_le C 73 78 dX12_measureOf_70 (by decide) rfl (fun c_7 => ?_) (fun c_7 => ?_)
      · refine r_bipush C 75 (nI 99) (by decide) dX12_measureOf_73 rfl ?_
        refine r_goto C 80 dX12_measureOf_75 (by decide) ?_
        exact r_iret C Rr dX12_measureOf_80 (fun _ => rfl) rfl
      · refine r_iload C 80 0 rfl dX12_measureOf_78 rfl ?_
        exact r_iret C Rr dX12_measureOf_80 (fun _ => rfl) rfl
  · intro j_5 hj_5
    refine r_if_ne C 46 51 dX12_measureOf_43 (by decide) rfl (fun c_8 => ?_) (fun c_8 => ?_)
    · refine r_iload C 48 0 rfl dX12_measureOf_46 rfl ?_
      refine r_goto C 54 dX12_measureOf_48 (by decide) ?_
      exact imp_sub [] [] rfl (hj_5 (((v_1) * (x3)) / ((nI 10))) (v_2))
    · refine r_iload C 53 0 rfl dX12_measureOf_51 rfl ?_
      refine r_ineg C 54 dX12_measureOf_53 rfl ?_
      exact imp_sub [] [] rfl (hj_5 (-(((v_1) * (x3)) / ((nI 10)))) (v_2))
set_option maxHeartbeats 4000000 in
theorem ok_f_X12_measureOf (x1 : Int32) (x2 : Int32) (x3 : Int32)  (h : CH) : ∀ q, f_X12_measureOf x1 x2 x3 h = some q → MG yX12_measureOf cX12_measureOf 6 (some .int) [] 1 (fun ad => [.ref (ad 151), .int x1, .int x2, .int x3]) h ((fun (x : Int32) (_ : Nat → Nat) => some (Value.int x)) q) ((fun (_ : Int32) => h) q) := mg_of RX12 (by decide) rfl (fun _ => Nat.le_of_ble_eq_true rfl) (fun κ C Rr => imp_f_X12_measureOf C x1 x2 x3 h Rr)
set_option maxHeartbeats 4000000 in
set_option maxRecDepth 100000 in
theorem imp_f_X12_face {κ : Kx Int32} (C : Cx κ cX12_face RX12 4 3 (40 * 3) []) (x1 : Int32) (x2 : Int32) (x3 : Int32)  (h : CH) (Rr : Rt κ (some .int) (fun (x : Int32) (_ : Nat → Nat) => some (Value.int x)) (fun (_ : Int32) => h)) : Imp κ 0 [(0, .ref (kad κ 151)), (1, .int (x1)), (2, .int (x2)), (3, .int (x3))] [] h (f_X12_face x1 x2 x3 h) := by
  unfold f_X12_face
  refine r_aload_n C 1 0 rfl dX12_face_0 rfl ?_
  refine r_iload_n C 2 1 rfl dX12_face_1 rfl ?_
  refine r_cVpI C 5 [] (ok_f_X12_isFace x1 h) dX12_face_2 lvX12_424 kt_151 rfl rfl rfl (by decide) (Nat.le_of_ble_eq_true rfl) rfl rfl (Nat.le_of_ble_eq_true rfl) rfl rfl (fun v_1 => ?_)
  refine r_if_eq C 8 42 dX12_face_5 (by decide) rfl (fun c_2 => ?_) (fun c_2 => ?_)
  · refine r_iconst C 43 (-1) (by decide) dX12_face_42 rfl ?_
    exact r_iret C Rr dX12_face_43 (fun _ => rfl) rfl
  · refine r_iload_n C 9 2 rfl dX12_face_8 rfl ?_
    refine r_iconst C 10 (nI 0) (by decide) dX12_face_9 rfl ?_
    refine r_aload_n C 11 0 rfl dX12_face_10 rfl ?_
    refine r_cVpI C 14 [.int ((nI 0)), .int (x2)] (ok_f_X12_pointMany h) dX12_face_11 lvX12_406 kt_151 rfl rfl rfl (by decide) (Nat.le_of_ble_eq_true rfl) rfl rfl (Nat.le_of_ble_eq_true rfl) rfl rfl (fun v_3 => ?_)
    refine r_iconst C 15 (nI 1) (by decide) dX12_face_14 rfl ?_
    refine r_isub C 16 dX12_face_15 rfl ?_
    refine r_cSpI C 19 [] (ok_f_X12_isIn x2 ((nI 0)) ((v_3) - ((nI 1))) h) dX12_face_16 lsX12_402 rfl (by decide) (Nat.le_of_ble_eq_true rfl) rfl rfl (Nat.le_of_ble_eq_true rfl) rfl rfl (fun v_4 => ?_)
    refine r_if_eq C 22 42 dX12_face_19 (by decide) rfl (fun c_5 => ?_) (fun c_5 => ?_)
    · refine r_iconst C 43 (-1) (by decide) dX12_face_42 rfl ?_
      exact r_iret C Rr dX12_face_43 (fun _ => rfl) rfl
    · refine r_iload_n C 23 3 rfl dX12_face_22 rfl ?_
      refine r_iconst C 24 (nI 0) (by decide) dX12_face_23 rfl ?_
      refine r_bipush C 26 (nI 60) (by decide) dX12_face_24 rfl ?_
      refine r_cSpI C 29 [] (ok_f_X12_isIn x3 ((nI 0)) ((nI 60)) h) dX12_face_26 lsX12_402 rfl (by decide) (Nat.le_of_ble_eq_true rfl) rfl rfl (Nat.le_of_ble_eq_true rfl) rfl rfl (fun v_6 => ?_)
      refine r_if_eq C 32 42 dX12_face_29 (by decide) rfl (fun c_7 => ?_) (fun c_7 => ?_)
      · refine r_iconst C 43 (-1) (by decide) dX12_face_42 rfl ?_
        exact r_iret C Rr dX12_face_43 (fun _ => rfl) rfl
      · refine r_aload_n C 33 0 rfl dX12_face_32 rfl ?_
        refine r_iload_n C 34 1 rfl dX12_face_33 rfl ?_
        refine r_iload_n C 35 2 rfl dX12_face_34 rfl ?_
        refine r_iload_n C 36 3 rfl dX12_face_35 rfl ?_
        refine r_cVpI C 39 [] (ok_f_X12_measureOf x1 x2 x3 h) dX12_face_36 lvX12_409 kt_151 rfl rfl rfl (by decide) (Nat.le_of_ble_eq_true rfl) rfl rfl (Nat.le_of_ble_eq_true rfl) rfl rfl (fun v_8 => ?_)
        refine r_goto C 43 dX12_face_39 (by decide) ?_
        exact r_iret C Rr dX12_face_43 (fun _ => rfl) rfl
set_option maxHeartbeats 4000000 in
theorem ok_f_X12_face (x1 : Int32) (x2 : Int32) (x3 : Int32)  (h : CH) : ∀ q, f_X12_face x1 x2 x3 h = some q → MG yX12_face cX12_face 4 (some .int) [] 3 (fun ad => [.ref (ad 151), .int x1, .int x2, .int x3]) h ((fun (x : Int32) (_ : Nat → Nat) => some (Value.int x)) q) ((fun (_ : Int32) => h) q) := mg_of RX12 (by decide) rfl (fun _ => Nat.le_of_ble_eq_true rfl) (fun κ C Rr => imp_f_X12_face C x1 x2 x3 h Rr)
set_option maxHeartbeats 4000000 in
set_option maxRecDepth 100000 in
theorem imp_f_X12_sizeOf {κ : Kx Int32} (C : Cx κ cX12_sizeOf RX12 1 1 (40 * 1) []) (x0 : Int32)  (h : CH) (Rr : Rt κ (some .int) (fun (x : Int32) (_ : Nat → Nat) => some (Value.int x)) (fun (_ : Int32) => h)) : Imp κ 0 [(0, .int (x0))] [] h (f_X12_sizeOf x0 h) := by
  unfold f_X12_sizeOf
  refine r_iload_n C 1 0 rfl dX12_sizeOf_0 rfl ?_
  refine r_if_ge C 4 9 dX12_sizeOf_1 (by decide) rfl (fun c_1 => ?_) (fun c_1 => ?_)
  · refine r_iload_n C 5 0 rfl dX12_sizeOf_4 rfl ?_
    refine r_ineg C 6 dX12_sizeOf_5 rfl ?_
    refine r_goto C 10 dX12_sizeOf_6 (by decide) ?_
    exact r_iret C Rr dX12_sizeOf_10 (fun _ => rfl) rfl
  · refine r_iload_n C 10 0 rfl dX12_sizeOf_9 rfl ?_
    exact r_iret C Rr dX12_sizeOf_10 (fun _ => rfl) rfl
set_option maxHeartbeats 4000000 in
theorem ok_f_X12_sizeOf (x0 : Int32)  (h : CH) : ∀ q, f_X12_sizeOf x0 h = some q → MG yX12_sizeOf cX12_sizeOf 1 (some .int) [] 1 (fun ad => [.int x0]) h ((fun (x : Int32) (_ : Nat → Nat) => some (Value.int x)) q) ((fun (_ : Int32) => h) q) := mg_of RX12 (by decide) rfl (fun _ => Nat.le_of_ble_eq_true rfl) (fun κ C Rr => imp_f_X12_sizeOf C x0 h Rr)
set_option maxHeartbeats 4000000 in
set_option maxRecDepth 100000 in
theorem imp_f_X12_far_L45 {κ : Kx Int32} (C : Cx κ cX12_far RX12 7 3 (40 * 3) []) (x1 : Int32) (x2 : Int32) (x3 : Int32) (x4 : Int32) (h : CH)    (Rr : Rt κ (some .int) (fun (x : Int32) (_ : Nat → Nat) => some (Value.int x)) (fun (_ : Int32) => h)) : ∀ (n : Nat) (x5 : Int32) (x6 : Int32), Imp κ 45 [(0, .ref (kad κ 151)), (1, .int (x1)), (2, .int (x2)), (3, .int (x3)), (4, .int (x4)), (5, .int (x5)), (6, .int (x6))] [] h (f_X12_far_L45 x1 x2 x3 x4 h n x5 x6) := by
  intro n
  induction n with
  | zero => intros; exact imp_none
  | succ n ih =>
    intro x5 x6
    rw [f_X12_far_L45]
    refine r_iload C 47 6 rfl dX12_far_45 rfl ?_
    refine r_aload_n C 48 0 rfl dX12_far_47 rfl ?_
    refine r_cVpI C 51 [.int (x6)] (ok_f_X12_pointMany h) dX12_far_48 lvX12_406 kt_151 rfl rfl rfl (by decide) (Nat.le_of_ble_eq_true rfl) rfl rfl (Nat.le_of_ble_eq_true rfl) rfl rfl (fun v_9 => ?_)
    refine r_icmp_ge C 54 86 dX12_far_51 (by decide) rfl (fun c_10 => ?_) (fun c_10 => ?_)
    · refine r_iload C 56 5 rfl dX12_far_54 rfl ?_
      refine r_aload_n C 57 0 rfl dX12_far_56 rfl ?_
      refine r_iload_n C 58 1 rfl dX12_far_57 rfl ?_
      refine r_iload C 60 6 rfl dX12_far_58 rfl ?_
      refine r_iload_n C 61 2 rfl dX12_far_60 rfl ?_
      refine r_cVpI C 64 [.int (x5)] (ok_f_X12_measureOf x1 x6 x2 h) dX12_far_61 lvX12_409 kt_151 rfl rfl rfl (by decide) (Nat.le_of_ble_eq_true rfl) rfl rfl (Nat.le_of_ble_eq_true rfl) rfl rfl (fun v_11 => ?_)
      refine r_aload_n C 65 0 rfl dX12_far_64 rfl ?_
      refine r_iload_n C 66 3 rfl dX12_far_65 rfl ?_
      refine r_iload C 68 6 rfl dX12_far_66 rfl ?_
      refine r_iload C 70 4 rfl dX12_far_68 rfl ?_
      refine r_cVpI C 73 [.int (v_11), .int (x5)] (ok_f_X12_measureOf x3 x6 x4 h) dX12_far_70 lvX12_409 kt_151 rfl rfl rfl (by decide) (Nat.le_of_ble_eq_true rfl) rfl rfl (Nat.le_of_ble_eq_true rfl) rfl rfl (fun v_12 => ?_)
      refine r_isub C 74 dX12_far_73 rfl ?_
      refine r_cSpI C 77 [.int (x5)] (ok_f_X12_sizeOf ((v_11) - (v_12)) h) dX12_far_74 lsX12_412 rfl (by decide) (Nat.le_of_ble_eq_true rfl) rfl rfl (Nat.le_of_ble_eq_true rfl) rfl rfl (fun v_13 => ?_)
      refine r_iadd C 78 dX12_far_77 rfl ?_
      refine r_istore C 80 [(5, .int ((x5) + (v_13))), (0, .ref (kad κ 151)), (1, .int (x1)), (2, .int (x2)), (3, .int (x3)), (4, .int (x4)), (6, .int (x6))] dX12_far_78 (by decide) rfl rfl ?_
      refine r_iinc C 83 6 (nI 1) [(6, .int (x6 + (nI 1))), (5, .int ((x5) + (v_13))), (0, .ref (kad κ 151)), (1, .int (x1)), (2, .int (x2)), (3, .int (x3)), (4, .int (x4))] dX12_far_80 rfl (by decide) (by decide) rfl rfl ?_
      refine r_goto C 45 dX12_far_83 (by decide) ?_
      exact imp_sub [(0, .ref (kad κ 151)), (1, .int (x1)), (2, .int (x2)), (3, .int (x3)), (4, .int (x4)), (5, .int ((x5) + (v_13))), (6, .int (x6 + (nI 1)))] [2, 3, 4, 5, 6, 1, 0] rfl (ih ((x5) + (v_13)) (x6 + (nI 1)))
    · refine r_iload C 88 5 rfl dX12_far_86 rfl ?_
      exact r_iret C Rr dX12_far_88 (fun _ => rfl) rfl
set_option maxHeartbeats 4000000 in
set_option maxRecDepth 100000 in
theorem imp_f_X12_far {κ : Kx Int32} (C : Cx κ cX12_far RX12 7 3 (40 * 3) []) (x1 : Int32) (x2 : Int32) (x3 : Int32) (x4 : Int32)  (h : CH) (Rr : Rt κ (some .int) (fun (x : Int32) (_ : Nat → Nat) => some (Value.int x)) (fun (_ : Int32) => h)) : Imp κ 0 [(0, .ref (kad κ 151)), (1, .int (x1)), (2, .int (x2)), (3, .int (x3)), (4, .int (x4))] [] h (f_X12_far x1 x2 x3 x4 h) := by
  unfold f_X12_far
  refine r_aload_n C 1 0 rfl dX12_far_0 rfl ?_
  refine r_iload_n C 2 1 rfl dX12_far_1 rfl ?_
  refine r_cVpI C 5 [] (ok_f_X12_isFace x1 h) dX12_far_2 lvX12_424 kt_151 rfl rfl rfl (by decide) (Nat.le_of_ble_eq_true rfl) rfl rfl (Nat.le_of_ble_eq_true rfl) rfl rfl (fun v_1 => ?_)
  refine r_if_eq C 8 37 dX12_far_5 (by decide) rfl (fun c_2 => ?_) (fun c_2 => ?_)
  · refine r_iconst C 38 (-1) (by decide) dX12_far_37 rfl ?_
    exact r_iret C Rr dX12_far_38 (fun _ => rfl) rfl
  · refine r_aload_n C 9 0 rfl dX12_far_8 rfl ?_
    refine r_iload_n C 10 3 rfl dX12_far_9 rfl ?_
    refine r_cVpI C 13 [] (ok_f_X12_isFace x3 h) dX12_far_10 lvX12_424 kt_151 rfl rfl rfl (by decide) (Nat.le_of_ble_eq_true rfl) rfl rfl (Nat.le_of_ble_eq_true rfl) rfl rfl (fun v_3 => ?_)
    refine r_if_eq C 16 37 dX12_far_13 (by decide) rfl (fun c_4 => ?_) (fun c_4 => ?_)
    · refine r_iconst C 38 (-1) (by decide) dX12_far_37 rfl ?_
      exact r_iret C Rr dX12_far_38 (fun _ => rfl) rfl
    · refine r_iload_n C 17 2 rfl dX12_far_16 rfl ?_
      refine r_iconst C 18 (nI 0) (by decide) dX12_far_17 rfl ?_
      refine r_bipush C 20 (nI 60) (by decide) dX12_far_18 rfl ?_
      refine r_cSpI C 23 [] (ok_f_X12_isIn x2 ((nI 0)) ((nI 60)) h) dX12_far_20 lsX12_402 rfl (by decide) (Nat.le_of_ble_eq_true rfl) rfl rfl (Nat.le_of_ble_eq_true rfl) rfl rfl (fun v_5 => ?_)
      refine r_if_eq C 26 37 dX12_far_23 (by decide) rfl (fun c_6 => ?_) (fun c_6 => ?_)
      · refine r_iconst C 38 (-1) (by decide) dX12_far_37 rfl ?_
        exact r_iret C Rr dX12_far_38 (fun _ => rfl) rfl
      · refine r_iload C 28 4 rfl dX12_far_26 rfl ?_
        refine r_iconst C 29 (nI 0) (by decide) dX12_far_28 rfl ?_
        refine r_bipush C 31 (nI 60) (by decide) dX12_far_29 rfl ?_
        refine r_cSpI C 34 [] (ok_f_X12_isIn x4 ((nI 0)) ((nI 60)) h) dX12_far_31 lsX12_402 rfl (by decide) (Nat.le_of_ble_eq_true rfl) rfl rfl (Nat.le_of_ble_eq_true rfl) rfl rfl (fun v_7 => ?_)
        refine r_if_ne C 37 39 dX12_far_34 (by decide) rfl (fun c_8 => ?_) (fun c_8 => ?_)
        · refine r_iconst C 38 (-1) (by decide) dX12_far_37 rfl ?_
          exact r_iret C Rr dX12_far_38 (fun _ => rfl) rfl
        · refine r_iconst C 40 (nI 0) (by decide) dX12_far_39 rfl ?_
          refine r_istore C 42 [(5, .int ((nI 0))), (0, .ref (kad κ 151)), (1, .int (x1)), (2, .int (x2)), (3, .int (x3)), (4, .int (x4))] dX12_far_40 (by decide) rfl rfl ?_
          refine r_iconst C 43 (nI 0) (by decide) dX12_far_42 rfl ?_
          refine r_istore C 45 [(6, .int ((nI 0))), (5, .int ((nI 0))), (0, .ref (kad κ 151)), (1, .int (x1)), (2, .int (x2)), (3, .int (x3)), (4, .int (x4))] dX12_far_43 (by decide) rfl rfl ?_
          refine imp_sub [(0, .ref (kad κ 151)), (1, .int (x1)), (2, .int (x2)), (3, .int (x3)), (4, .int (x4)), (5, .int ((nI 0))), (6, .int ((nI 0)))] [2, 3, 4, 5, 6, 1, 0] rfl ?_
          refine imp_f_X12_far_L45 C (x1) (x2) (x3) (x4) h Rr FU ((nI 0)) ((nI 0))
set_option maxHeartbeats 4000000 in
theorem ok_f_X12_far (x1 : Int32) (x2 : Int32) (x3 : Int32) (x4 : Int32)  (h : CH) : ∀ q, f_X12_far x1 x2 x3 x4 h = some q → MG yX12_far cX12_far 7 (some .int) [] 3 (fun ad => [.ref (ad 151), .int x1, .int x2, .int x3, .int x4]) h ((fun (x : Int32) (_ : Nat → Nat) => some (Value.int x)) q) ((fun (_ : Int32) => h) q) := mg_of RX12 (by decide) rfl (fun _ => Nat.le_of_ble_eq_true rfl) (fun κ C Rr => imp_f_X12_far C x1 x2 x3 x4 h Rr)
set_option maxHeartbeats 4000000 in
set_option maxRecDepth 100000 in
theorem imp_f_X12_isWhen {κ : Kx Int32} (C : Cx κ cX12_isWhen RX12 2 2 (40 * 2) []) (x0 : Int32) (x1 : Int32)  (h : CH) (Rr : Rt κ (some .boolean) (fun (x : Int32) (_ : Nat → Nat) => some (Value.int x)) (fun (_ : Int32) => h)) : Imp κ 0 [(0, .int (x0)), (1, .int (x1))] [] h (f_X12_isWhen x0 x1 h) := by
  unfold f_X12_isWhen
  refine r_iload_n C 1 0 rfl dX12_isWhen_0 rfl ?_
  refine r_iconst C 2 (nI 0) (by decide) dX12_isWhen_1 rfl ?_
  refine r_bipush C 4 (nI 60) (by decide) dX12_isWhen_2 rfl ?_
  refine r_cSpI C 7 [] (ok_f_X12_isIn x0 ((nI 0)) ((nI 60)) h) dX12_isWhen_4 lsX12_402 rfl (by decide) (Nat.le_of_ble_eq_true rfl) rfl rfl (Nat.le_of_ble_eq_true rfl) rfl rfl (fun v_1 => ?_)
  refine r_if_eq C 10 24 dX12_isWhen_7 (by decide) rfl (fun c_2 => ?_) (fun c_2 => ?_)
  · refine r_iconst C 25 (nI 0) (by decide) dX12_isWhen_24 rfl ?_
    exact r_zret C Rr (by decide) dX12_isWhen_25 (fun _ => rfl) rfl
  · refine r_iload_n C 11 1 rfl dX12_isWhen_10 rfl ?_
    refine r_iconst C 12 (nI 0) (by decide) dX12_isWhen_11 rfl ?_
    refine r_bipush C 14 (nI 9) (by decide) dX12_isWhen_12 rfl ?_
    refine r_cSpI C 17 [] (ok_f_X12_isIn x1 ((nI 0)) ((nI 9)) h) dX12_isWhen_14 lsX12_402 rfl (by decide) (Nat.le_of_ble_eq_true rfl) rfl rfl (Nat.le_of_ble_eq_true rfl) rfl rfl (fun v_3 => ?_)
    refine r_if_eq C 20 24 dX12_isWhen_17 (by decide) rfl (fun c_4 => ?_) (fun c_4 => ?_)
    · refine r_iconst C 25 (nI 0) (by decide) dX12_isWhen_24 rfl ?_
      exact r_zret C Rr (by decide) dX12_isWhen_25 (fun _ => rfl) rfl
    · refine r_iconst C 21 (nI 1) (by decide) dX12_isWhen_20 rfl ?_
      refine r_goto C 25 dX12_isWhen_21 (by decide) ?_
      exact r_zret C Rr (by decide) dX12_isWhen_25 (fun _ => rfl) rfl
set_option maxHeartbeats 4000000 in
theorem ok_f_X12_isWhen (x0 : Int32) (x1 : Int32)  (h : CH) : ∀ q, f_X12_isWhen x0 x1 h = some q → MG yX12_isWhen cX12_isWhen 2 (some .boolean) [] 2 (fun ad => [.int x0, .int x1]) h ((fun (x : Int32) (_ : Nat → Nat) => some (Value.int x)) q) ((fun (_ : Int32) => h) q) := mg_of RX12 (by decide) rfl (fun _ => Nat.le_of_ble_eq_true rfl) (fun κ C Rr => imp_f_X12_isWhen C x0 x1 h Rr)
set_option maxHeartbeats 4000000 in
set_option maxRecDepth 100000 in
theorem imp_f_X12_layMix_L3 {κ : Kx (Unit × CH)} (C : Cx κ cX12_layMix RX12 7 2 (40 * 2) []) (x1 : Int32) (x2 : Int32) (x3 : Int32) (x4 : Int32)    (Rr : Rt κ none (fun (_ : Unit × CH) (_ : Nat → Nat) => (none : Option Value)) (fun (q : (Unit × CH)) => q.2)) : ∀ (n : Nat) (x5 : Int32) (h : CH), Imp κ 3 [(0, .ref (kad κ 151)), (1, .int (x1)), (2, .int (x2)), (3, .int (x3)), (4, .int (x4)), (5, .int (x5))] [] h (f_X12_layMix_L3 x1 x2 x3 x4 n x5 h) := by
  intro n
  induction n with
  | zero => intros; exact imp_none
  | succ n ih =>
    intro x5 h
    rw [f_X12_layMix_L3]
    refine r_iload C 5 5 rfl dX12_layMix_3 rfl ?_
    refine r_aload_n C 6 0 rfl dX12_layMix_5 rfl ?_
    refine r_cVpI C 9 [.int (x5)] (ok_f_X12_pointMany h) dX12_layMix_6 lvX12_406 kt_151 rfl rfl rfl (by decide) (Nat.le_of_ble_eq_true rfl) rfl rfl (Nat.le_of_ble_eq_true rfl) rfl rfl (fun v_1 => ?_)
    refine r_icmp_ge C 12 86 dX12_layMix_9 (by decide) rfl (fun c_2 => ?_) (fun c_2 => ?_)
    · refine r_aload_n C 13 0 rfl dX12_layMix_12 rfl ?_
      refine r_iload_n C 14 1 rfl dX12_layMix_13 rfl ?_
      refine r_iload C 16 5 rfl dX12_layMix_14 rfl ?_
      refine r_iconst C 17 (nI 0) (by decide) dX12_layMix_16 rfl ?_
      refine r_cVpI C 20 [] (ok_f_X12_measureOf x1 x5 ((nI 0)) h) dX12_layMix_17 lvX12_409 kt_151 rfl rfl rfl (by decide) (Nat.le_of_ble_eq_true rfl) rfl rfl (Nat.le_of_ble_eq_true rfl) rfl rfl (fun v_3 => ?_)
      refine r_iload_n C 21 3 rfl dX12_layMix_20 rfl ?_
      refine r_imul C 22 dX12_layMix_21 rfl ?_
      refine r_aload_n C 23 0 rfl dX12_layMix_22 rfl ?_
      refine r_iload_n C 24 2 rfl dX12_layMix_23 rfl ?_
      refine r_iload C 26 5 rfl dX12_layMix_24 rfl ?_
      refine r_iconst C 27 (nI 0) (by decide) dX12_layMix_26 rfl ?_
      refine r_cVpI C 30 [.int ((v_3) * (x3))] (ok_f_X12_measureOf x2 x5 ((nI 0)) h) dX12_layMix_27 lvX12_409 kt_151 rfl rfl rfl (by decide) (Nat.le_of_ble_eq_true rfl) rfl rfl (Nat.le_of_ble_eq_true rfl) rfl rfl (fun v_4 => ?_)
      refine r_bipush C 32 (nI 10) (by decide) dX12_layMix_30 rfl ?_
      refine r_iload_n C 33 3 rfl dX12_layMix_32 rfl ?_
      refine r_isub C 34 dX12_layMix_33 rfl ?_
      refine r_imul C 35 dX12_layMix_34 rfl ?_
      refine r_iadd C 36 dX12_layMix_35 rfl ?_
      refine r_bipush C 38 (nI 10) (by decide) dX12_layMix_36 rfl ?_
      refine r_idivk C 39 (by decide) dX12_layMix_38 rfl ?_
      refine r_istore C 41 [(6, .int ((((v_3) * (x3)) + ((v_4) * (((nI 10)) - (x3)))) / ((nI 10)))), (0, .ref (kad κ 151)), (1, .int (x1)), (2, .int (x2)), (3, .int (x3)), (4, .int (x4)), (5, .int (x5))] dX12_layMix_39 (by decide) rfl rfl ?_
      refine r_aload_n C 42 1 rfl dX12_layMix_41 rfl ?_
      refine r_getR C 45 dX12_layMix_42 flX12_89 kt_151 rfl rf_151_52 rfl ?_
      refine r_iload C 47 6 rfl dX12_layMix_45 rfl ?_
      refine r_iload C 49 5 rfl dX12_layMix_47 rfl ?_
      refine imp_jn (fun (j_7 : Int32 → Int32 → Option (Unit × CH)) => ∀ (s_5 : Int32) (s_6 : Int32), Imp κ 79 [(0, .ref (kad κ 151)), (1, .int (x1)), (2, .int (x2)), (3, .int (x3)), (4, .int (x4)), (5, .int (x5))] [.int (s_5), .int (s_6), .ref (kad κ 176)] h (j_7 s_5 s_6)) ?_ ?_
      · intro s_5 s_6
        refine r_iast C 80 dX12_layMix_79 kt_176 rfl rfl (fun h_8 => ?_)
        refine r_iinc C 83 5 (nI 1) [(5, .int (x5 + (nI 1))), (0, .ref (kad κ 151)), (1, .int (x1)), (2, .int (x2)), (3, .int (x3)), (4, .int (x4))] dX12_layMix_80 rfl (by decide) (by decide) rfl rfl ?_
        refine r_goto C 3 dX12_layMix_83 (by decide) ?_
        exact imp_sub [(0, .ref (kad κ 151)), (1, .int (x1)), (2, .int (x2)), (3, .int (x3)), (4, .int (x4)), (5, .int (x5 + (nI 1)))] [1, 2, 3, 4, 5, 0] rfl (ih (x5 + (nI 1)) h_8)
      · intro j_7 hj_7
        refine r_if_ge C 52 57 dX12_layMix_49 (by decide) rfl (fun c_9 => ?_) (fun c_9 => ?_)
        · refine r_iload C 54 0 rfl dX12_layMix_52 rfl ?_
          refine r_goto C 79 dX12_layMix_54 (by decide) ?_
          exact imp_sub [(0, .ref (kad κ 151)), (1, .int (x1)), (2, .int (x2)), (3, .int (x3)), (4, .int (x4)), (5, .int (x5))] [1, 2, 3, 4, 5, 6] rfl (hj_7 ((((v_3) * (x3)) + ((v_4) * (((nI 10)) - (x3)))) / ((nI 10))) (x5))
        · refine r_iload C 59 0 rfl dX12_layMix_57 rfl ?_
          refine r_iload C 61 0 rfl dX12_layMix_59 rfl ?_
          refine r_aload_n C 62 1 rfl dX12_layMix_61 rfl ?_
          refine r_getR C 65 dX12_layMix_62 flX12_45 kt_151 rfl rf_151_20 rfl ?_
          refine r_iconst C 66 (nI 4) (by decide) dX12_layMix_65 rfl ?_
          refine r_aload_n C 67 1 rfl dX12_layMix_66 rfl ?_
          refine r_getI C 70 dX12_layMix_67 flX12_269 kt_151 rfl rfl ?_
          refine r_imul C 71 dX12_layMix_70 rfl ?_
          refine r_iload C 73 5 rfl dX12_layMix_71 rfl ?_
          refine r_iadd C 74 dX12_layMix_73 rfl ?_
          refine r_iald C 75 dX12_layMix_74 kt_162 rfl rfl (fun v_10 => ?_)
          refine r_iconst C 76 (nI 1) (by decide) dX12_layMix_75 rfl ?_
          refine r_iadd C 77 dX12_layMix_76 rfl ?_
          refine r_irem C 78 dX12_layMix_77 rfl ?_
          refine r_isub C 79 dX12_layMix_78 rfl ?_
          exact imp_sub [(0, .ref (kad κ 151)), (1, .int (x1)), (2, .int (x2)), (3, .int (x3)), (4, .int (x4)), (5, .int (x5))] [1, 2, 3, 4, 5, 6] rfl (hj_7 (((((v_3) * (x3)) + ((v_4) * (((nI 10)) - (x3)))) / ((nI 10))) - (((((v_3) * (x3)) + ((v_4) * (((nI 10)) - (x3)))) / ((nI 10))) - ((((v_3) * (x3)) + ((v_4) * (((nI 10)) - (x3)))) / ((nI 10))) / ((v_10) + ((nI 1))) * ((v_10) + ((nI 1))))) (x5))
    · exact r_vret C Rr dX12_layMix_86 (fun _ => rfl) rfl
set_option maxHeartbeats 4000000 in
set_option maxRecDepth 100000 in
theorem imp_f_X12_layMix {κ : Kx (Unit × CH)} (C : Cx κ cX12_layMix RX12 7 2 (40 * 2) []) (x1 : Int32) (x2 : Int32) (x3 : Int32) (x4 : Int32)  (h : CH) (Rr : Rt κ none (fun (_ : Unit × CH) (_ : Nat → Nat) => (none : Option Value)) (fun (q : (Unit × CH)) => q.2)) : Imp κ 0 [(0, .ref (kad κ 151)), (1, .int (x1)), (2, .int (x2)), (3, .int (x3)), (4, .int (x4))] [] h (f_X12_layMix x1 x2 x3 x4 h) := by
  unfold f_X12_layMix
  refine r_iconst C 1 (nI 0) (by decide) dX12_layMix_0 rfl ?_
  refine r_istore C 3 [(5, .int ((nI 0))), (0, .ref (kad κ 151)), (1, .int (x1)), (2, .int (x2)), (3, .int (x3)), (4, .int (x4))] dX12_layMix_1 (by decide) rfl rfl ?_
  refine imp_sub [(0, .ref (kad κ 151)), (1, .int (x1)), (2, .int (x2)), (3, .int (x3)), (4, .int (x4)), (5, .int ((nI 0)))] [1, 2, 3, 4, 5, 0] rfl ?_
  refine imp_f_X12_layMix_L3 C (x1) (x2) (x3) (x4) Rr FU ((nI 0)) h
set_option maxHeartbeats 4000000 in
theorem ok_f_X12_layMix (x1 : Int32) (x2 : Int32) (x3 : Int32) (x4 : Int32)  (h : CH) : ∀ q, f_X12_layMix x1 x2 x3 x4 h = some q → MG yX12_layMix cX12_layMix 7 none [] 2 (fun ad => [.ref (ad 151), .int x1, .int x2, .int x3, .int x4]) h ((fun (_ : Unit × CH) (_ : Nat → Nat) => (none : Option Value)) q) ((fun (q : (Unit × CH)) => q.2) q) := mg_of RX12 (by decide) rfl (fun _ => Nat.le_of_ble_eq_true rfl) (fun κ C Rr => imp_f_X12_layMix C x1 x2 x3 x4 h Rr)
set_option maxHeartbeats 4000000 in
set_option maxRecDepth 100000 in
theorem imp_f_X12_lit {κ : Kx Int32} (C : Cx κ cX12_lit RX12 2 1 (40 * 1) []) (x0 : Int32) (x1 : Int32)  (h : CH) (Rr : Rt κ (some .int) (fun (x : Int32) (_ : Nat → Nat) => some (Value.int x)) (fun (_ : Int32) => h)) : Imp κ 0 [(0, .int (x0)), (1, .int (x1))] [] h (f_X12_lit x0 x1 h) := by
  unfold f_X12_lit
  refine r_iload_n C 1 0 rfl dX12_lit_0 rfl ?_
  refine r_iload_n C 2 1 rfl dX12_lit_1 rfl ?_
  refine r_iadd C 3 dX12_lit_2 rfl ?_
  refine r_bipush C 5 (nI 99) (by decide) dX12_lit_3 rfl ?_
  refine r_icmp_le C 8 13 dX12_lit_5 (by decide) rfl (fun c_1 => ?_) (fun c_1 => ?_)
  · refine r_bipush C 10 (nI 99) (by decide) dX12_lit_8 rfl ?_
    refine r_goto C 16 dX12_lit_10 (by decide) ?_
    exact r_iret C Rr dX12_lit_16 (fun _ => rfl) rfl
  · refine r_iload_n C 14 0 rfl dX12_lit_13 rfl ?_
    refine r_iload_n C 15 1 rfl dX12_lit_14 rfl ?_
    refine r_iadd C 16 dX12_lit_15 rfl ?_
    exact r_iret C Rr dX12_lit_16 (fun _ => rfl) rfl
set_option maxHeartbeats 4000000 in
theorem ok_f_X12_lit (x0 : Int32) (x1 : Int32)  (h : CH) : ∀ q, f_X12_lit x0 x1 h = some q → MG yX12_lit cX12_lit 2 (some .int) [] 1 (fun ad => [.int x0, .int x1]) h ((fun (x : Int32) (_ : Nat → Nat) => some (Value.int x)) q) ((fun (_ : Int32) => h) q) := mg_of RX12 (by decide) rfl (fun _ => Nat.le_of_ble_eq_true rfl) (fun κ C Rr => imp_f_X12_lit C x0 x1 h Rr)
set_option maxHeartbeats 4000000 in
set_option maxRecDepth 100000 in
theorem imp_f_X12_farLive_L6 {κ : Kx Int32} (C : Cx κ cX12_farLive RX12 6 2 (40 * 2) []) (x1 : Int32) (x2 : Int32) (x3 : Int32) (h : CH)    (Rr : Rt κ (some .int) (fun (x : Int32) (_ : Nat → Nat) => some (Value.int x)) (fun (_ : Int32) => h)) : ∀ (n : Nat) (x4 : Int32) (x5 : Int32), Imp κ 6 [(0, .ref (kad κ 151)), (1, .int (x1)), (2, .int (x2)), (3, .int (x3)), (4, .int (x4)), (5, .int (x5))] [] h (f_X12_farLive_L6 x1 x2 x3 h n x4 x5) := by
  intro n
  induction n with
  | zero => intros; exact imp_none
  | succ n ih =>
    intro x4 x5
    rw [f_X12_farLive_L6]
    refine r_iload C 8 5 rfl dX12_farLive_6 rfl ?_
    refine r_aload_n C 9 0 rfl dX12_farLive_8 rfl ?_
    refine r_cVpI C 12 [.int (x5)] (ok_f_X12_pointMany h) dX12_farLive_9 lvX12_406 kt_151 rfl rfl rfl (by decide) (Nat.le_of_ble_eq_true rfl) rfl rfl (Nat.le_of_ble_eq_true rfl) rfl rfl (fun v_1 => ?_)
    refine r_icmp_ge C 15 49 dX12_farLive_12 (by decide) rfl (fun c_2 => ?_) (fun c_2 => ?_)
    · refine r_iload C 17 4 rfl dX12_farLive_15 rfl ?_
      refine r_aload_n C 18 0 rfl dX12_farLive_17 rfl ?_
      refine r_iload_n C 19 1 rfl dX12_farLive_18 rfl ?_
      refine r_iload C 21 5 rfl dX12_farLive_19 rfl ?_
      refine r_iload_n C 22 2 rfl dX12_farLive_21 rfl ?_
      refine r_cVpI C 25 [.int (x4)] (ok_f_X12_measureOf x1 x5 x2 h) dX12_farLive_22 lvX12_409 kt_151 rfl rfl rfl (by decide) (Nat.le_of_ble_eq_true rfl) rfl rfl (Nat.le_of_ble_eq_true rfl) rfl rfl (fun v_3 => ?_)
      refine r_iload_n C 26 3 rfl dX12_farLive_25 rfl ?_
      refine r_cSpI C 29 [.int (x4)] (ok_f_X12_lit v_3 x3 h) dX12_farLive_26 lsX12_415 rfl (by decide) (Nat.le_of_ble_eq_true rfl) rfl rfl (Nat.le_of_ble_eq_true rfl) rfl rfl (fun v_4 => ?_)
      refine r_aload_n C 30 0 rfl dX12_farLive_29 rfl ?_
      refine r_getR C 33 dX12_farLive_30 flX12_89 kt_151 rfl rf_151_52 rfl ?_
      refine r_iload C 35 5 rfl dX12_farLive_33 rfl ?_
      refine r_iald C 36 dX12_farLive_35 kt_176 rfl rfl (fun v_5 => ?_)
      refine r_isub C 37 dX12_farLive_36 rfl ?_
      refine r_cSpI C 40 [.int (x4)] (ok_f_X12_sizeOf ((v_4) - (v_5)) h) dX12_farLive_37 lsX12_412 rfl (by decide) (Nat.le_of_ble_eq_true rfl) rfl rfl (Nat.le_of_ble_eq_true rfl) rfl rfl (fun v_6 => ?_)
      refine r_iadd C 41 dX12_farLive_40 rfl ?_
      refine r_istore C 43 [(4, .int ((x4) + (v_6))), (0, .ref (kad κ 151)), (1, .int (x1)), (2, .int (x2)), (3, .int (x3)), (5, .int (x5))] dX12_farLive_41 (by decide) rfl rfl ?_
      refine r_iinc C 46 5 (nI 1) [(5, .int (x5 + (nI 1))), (4, .int ((x4) + (v_6))), (0, .ref (kad κ 151)), (1, .int (x1)), (2, .int (x2)), (3, .int (x3))] dX12_farLive_43 rfl (by decide) (by decide) rfl rfl ?_
      refine r_goto C 6 dX12_farLive_46 (by decide) ?_
      exact imp_sub [(0, .ref (kad κ 151)), (1, .int (x1)), (2, .int (x2)), (3, .int (x3)), (4, .int ((x4) + (v_6))), (5, .int (x5 + (nI 1)))] [2, 3, 4, 5, 1, 0] rfl (ih ((x4) + (v_6)) (x5 + (nI 1)))
    · refine r_iload C 51 4 rfl dX12_farLive_49 rfl ?_
      exact r_iret C Rr dX12_farLive_51 (fun _ => rfl) rfl
set_option maxHeartbeats 4000000 in
set_option maxRecDepth 100000 in
theorem imp_f_X12_farLive {κ : Kx Int32} (C : Cx κ cX12_farLive RX12 6 2 (40 * 2) []) (x1 : Int32) (x2 : Int32) (x3 : Int32)  (h : CH) (Rr : Rt κ (some .int) (fun (x : Int32) (_ : Nat → Nat) => some (Value.int x)) (fun (_ : Int32) => h)) : Imp κ 0 [(0, .ref (kad κ 151)), (1, .int (x1)), (2, .int (x2)), (3, .int (x3))] [] h (f_X12_farLive x1 x2 x3 h) := by
  unfold f_X12_farLive
  refine r_iconst C 1 (nI 0) (by decide) dX12_farLive_0 rfl ?_
  refine r_istore C 3 [(4, .int ((nI 0))), (0, .ref (kad κ 151)), (1, .int (x1)), (2, .int (x2)), (3, .int (x3))] dX12_farLive_1 (by decide) rfl rfl ?_
  refine r_iconst C 4 (nI 0) (by decide) dX12_farLive_3 rfl ?_
  refine r_istore C 6 [(5, .int ((nI 0))), (4, .int ((nI 0))), (0, .ref (kad κ 151)), (1, .int (x1)), (2, .int (x2)), (3, .int (x3))] dX12_farLive_4 (by decide) rfl rfl ?_
  refine imp_sub [(0, .ref (kad κ 151)), (1, .int (x1)), (2, .int (x2)), (3, .int (x3)), (4, .int ((nI 0))), (5, .int ((nI 0)))] [2, 3, 4, 5, 1, 0] rfl ?_
  refine imp_f_X12_farLive_L6 C (x1) (x2) (x3) h Rr FU ((nI 0)) ((nI 0))
set_option maxHeartbeats 4000000 in
theorem ok_f_X12_farLive (x1 : Int32) (x2 : Int32) (x3 : Int32)  (h : CH) : ∀ q, f_X12_farLive x1 x2 x3 h = some q → MG yX12_farLive cX12_farLive 6 (some .int) [] 2 (fun ad => [.ref (ad 151), .int x1, .int x2, .int x3]) h ((fun (x : Int32) (_ : Nat → Nat) => some (Value.int x)) q) ((fun (_ : Int32) => h) q) := mg_of RX12 (by decide) rfl (fun _ => Nat.le_of_ble_eq_true rfl) (fun κ C Rr => imp_f_X12_farLive C x1 x2 x3 h Rr)
