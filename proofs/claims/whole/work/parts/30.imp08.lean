/-! the methods do what the functions say, by program -/
set_option maxHeartbeats 4000000 in
set_option maxRecDepth 100000 in
theorem imp_f_X12_two {κ : Kx Int32} (C : Cx κ cX12_two RX12 3 1 (40 * 1) []) (x0 : Int32) (x1 : Int32) (x2 : Int32)  (h : CH) (Rr : Rt κ (some .int) (fun (x : Int32) (_ : Nat → Nat) => some (Value.int x)) (fun (_ : Int32) => h)) : Imp κ 0 [(0, .int (x0)), (1, .int (x1)), (2, .int (x2))] [] h (f_X12_two x0 x1 x2 h) := by
  unfold f_X12_two
  refine r_iload_n C 1 0 rfl dX12_two_0 rfl ?_
  refine imp_ite (fun g_1 => ?_) (fun g_1 => ?_)
  · refine r_tsIn C 161 (nI 38) g_1 dX12_two_1 (by decide) (by decide) rfl (by decide) ?_
    refine r_iload_n C 162 1 rfl dX12_two_161 rfl ?_
    refine r_if_eq C 165 173 dX12_two_162 (by decide) rfl (fun c_2 => ?_) (fun c_2 => ?_)
    · refine r_iconst C 174 (nI 0) (by decide) dX12_two_173 rfl ?_
      exact r_iret C Rr dX12_two_174 (fun _ => rfl) rfl
    · refine r_iload_n C 166 2 rfl dX12_two_165 rfl ?_
      refine r_if_eq C 169 173 dX12_two_166 (by decide) rfl (fun c_3 => ?_) (fun c_3 => ?_)
      · refine r_iconst C 174 (nI 0) (by decide) dX12_two_173 rfl ?_
        exact r_iret C Rr dX12_two_174 (fun _ => rfl) rfl
      · refine r_iconst C 170 (nI 1) (by decide) dX12_two_169 rfl ?_
        refine r_goto C 174 dX12_two_170 (by decide) ?_
        exact r_iret C Rr dX12_two_174 (fun _ => rfl) rfl
  · refine imp_ite (fun g_4 => ?_) (fun g_4 => ?_)
    · refine r_tsIn C 124 (nI 42) g_4 dX12_two_1 (by decide) (by decide) rfl (by decide) ?_
      refine r_iload_n C 125 1 rfl dX12_two_124 rfl ?_
      refine r_iload_n C 126 2 rfl dX12_two_125 rfl ?_
      refine r_imul C 127 dX12_two_126 rfl ?_
      exact r_iret C Rr dX12_two_127 (fun _ => rfl) rfl
    · refine imp_ite (fun g_5 => ?_) (fun g_5 => ?_)
      · refine r_tsIn C 116 (nI 43) g_5 dX12_two_1 (by decide) (by decide) rfl (by decide) ?_
        refine r_iload_n C 117 1 rfl dX12_two_116 rfl ?_
        refine r_iload_n C 118 2 rfl dX12_two_117 rfl ?_
        refine r_iadd C 119 dX12_two_118 rfl ?_
        exact r_iret C Rr dX12_two_119 (fun _ => rfl) rfl
      · refine imp_ite (fun g_6 => ?_) (fun g_6 => ?_)
        · refine r_tsIn C 120 (nI 45) g_6 dX12_two_1 (by decide) (by decide) rfl (by decide) ?_
          refine r_iload_n C 121 1 rfl dX12_two_120 rfl ?_
          refine r_iload_n C 122 2 rfl dX12_two_121 rfl ?_
          refine r_isub C 123 dX12_two_122 rfl ?_
          exact r_iret C Rr dX12_two_123 (fun _ => rfl) rfl
        · refine imp_ite (fun g_7 => ?_) (fun g_7 => ?_)
          · refine r_tsIn C 128 (nI 60) g_7 dX12_two_1 (by decide) (by decide) rfl (by decide) ?_
            refine r_iload_n C 129 1 rfl dX12_two_128 rfl ?_
            refine r_iload_n C 130 2 rfl dX12_two_129 rfl ?_
            refine r_icmp_ge C 133 137 dX12_two_130 (by decide) rfl (fun c_8 => ?_) (fun c_8 => ?_)
            · refine r_iconst C 134 (nI 1) (by decide) dX12_two_133 rfl ?_
              refine r_goto C 138 dX12_two_134 (by decide) ?_
              exact r_iret C Rr dX12_two_138 (fun _ => rfl) rfl
            · refine r_iconst C 138 (nI 0) (by decide) dX12_two_137 rfl ?_
              exact r_iret C Rr dX12_two_138 (fun _ => rfl) rfl
          · refine imp_ite (fun g_9 => ?_) (fun g_9 => ?_)
            · refine r_tsIn C 150 (nI 61) g_9 dX12_two_1 (by decide) (by decide) rfl (by decide) ?_
              refine r_iload_n C 151 1 rfl dX12_two_150 rfl ?_
              refine r_iload_n C 152 2 rfl dX12_two_151 rfl ?_
              refine r_icmp_ne C 155 159 dX12_two_152 (by decide) rfl (fun c_10 => ?_) (fun c_10 => ?_)
              · refine r_iconst C 156 (nI 1) (by decide) dX12_two_155 rfl ?_
                refine r_goto C 160 dX12_two_156 (by decide) ?_
                exact r_iret C Rr dX12_two_160 (fun _ => rfl) rfl
              · refine r_iconst C 160 (nI 0) (by decide) dX12_two_159 rfl ?_
                exact r_iret C Rr dX12_two_160 (fun _ => rfl) rfl
            · refine imp_ite (fun g_11 => ?_) (fun g_11 => ?_)
              · refine r_tsIn C 139 (nI 62) g_11 dX12_two_1 (by decide) (by decide) rfl (by decide) ?_
                refine r_iload_n C 140 1 rfl dX12_two_139 rfl ?_
                refine r_iload_n C 141 2 rfl dX12_two_140 rfl ?_
                refine r_icmp_le C 144 148 dX12_two_141 (by decide) rfl (fun c_12 => ?_) (fun c_12 => ?_)
                · refine r_iconst C 145 (nI 1) (by decide) dX12_two_144 rfl ?_
                  refine r_goto C 149 dX12_two_145 (by decide) ?_
                  exact r_iret C Rr dX12_two_149 (fun _ => rfl) rfl
                · refine r_iconst C 149 (nI 0) (by decide) dX12_two_148 rfl ?_
                  exact r_iret C Rr dX12_two_149 (fun _ => rfl) rfl
              · by_cases g_16 : (x0) = (nI 39)
                · refine r_tsIn C 175 (nI 39) g_16 dX12_two_1 (by decide) (by decide) rfl (by decide) ?_
                  refine r_iload_n C 176 1 rfl dX12_two_175 rfl ?_
                  refine imp_jn (fun (j_13 : Option Int32) =>  Imp κ 183 [] [] h (j_13)) ?_ ?_
                  · refine r_iconst C 184 (nI 1) (by decide) dX12_two_183 rfl ?_
                    refine r_goto C 188 dX12_two_184 (by decide) ?_
                    exact r_iret C Rr dX12_two_188 (fun _ => rfl) rfl
                  · intro j_13 hj_13
                    refine r_if_ne C 179 183 dX12_two_176 (by decide) rfl (fun c_14 => ?_) (fun c_14 => ?_)
                    · refine r_iload_n C 180 2 rfl dX12_two_179 rfl ?_
                      refine r_if_eq C 183 187 dX12_two_180 (by decide) rfl (fun c_15 => ?_) (fun c_15 => ?_)
                      · refine r_iconst C 188 (nI 0) (by decide) dX12_two_187 rfl ?_
                        exact r_iret C Rr dX12_two_188 (fun _ => rfl) rfl
                      · exact imp_sub [] [] rfl (hj_13)
                    · exact imp_sub [] [] rfl (hj_13)
                · by_cases g_17 : (x0) = (nI 40)
                  · refine r_tsIn C 175 (nI 40) g_17 dX12_two_1 (by decide) (by decide) rfl (by decide) ?_
                    refine r_iload_n C 176 1 rfl dX12_two_175 rfl ?_
                    refine imp_jn (fun (j_13 : Option Int32) =>  Imp κ 183 [] [] h (j_13)) ?_ ?_
                    · refine r_iconst C 184 (nI 1) (by decide) dX12_two_183 rfl ?_
                      refine r_goto C 188 dX12_two_184 (by decide) ?_
                      exact r_iret C Rr dX12_two_188 (fun _ => rfl) rfl
                    · intro j_13 hj_13
                      refine r_if_ne C 179 183 dX12_two_176 (by decide) rfl (fun c_14 => ?_) (fun c_14 => ?_)
                      · refine r_iload_n C 180 2 rfl dX12_two_179 rfl ?_
                        refine r_if_eq C 183 187 dX12_two_180 (by decide) rfl (fun c_15 => ?_) (fun c_15 => ?_)
                        · refine r_iconst C 188 (nI 0) (by decide) dX12_two_187 rfl ?_
                          exact r_iret C Rr dX12_two_188 (fun _ => rfl) rfl
                        · exact imp_sub [] [] rfl (hj_13)
                      · exact imp_sub [] [] rfl (hj_13)
                  · by_cases g_18 : (x0) = (nI 41)
                    · refine r_tsIn C 175 (nI 41) g_18 dX12_two_1 (by decide) (by decide) rfl (by decide) ?_
                      refine r_iload_n C 176 1 rfl dX12_two_175 rfl ?_
                      refine imp_jn (fun (j_13 : Option Int32) =>  Imp κ 183 [] [] h (j_13)) ?_ ?_
                      · refine r_iconst C 184 (nI 1) (by decide) dX12_two_183 rfl ?_
                        refine r_goto C 188 dX12_two_184 (by decide) ?_
                        exact r_iret C Rr dX12_two_188 (fun _ => rfl) rfl
                      · intro j_13 hj_13
                        refine r_if_ne C 179 183 dX12_two_176 (by decide) rfl (fun c_14 => ?_) (fun c_14 => ?_)
                        · refine r_iload_n C 180 2 rfl dX12_two_179 rfl ?_
                          refine r_if_eq C 183 187 dX12_two_180 (by decide) rfl (fun c_15 => ?_) (fun c_15 => ?_)
                          · refine r_iconst C 188 (nI 0) (by decide) dX12_two_187 rfl ?_
                            exact r_iret C Rr dX12_two_188 (fun _ => rfl) rfl
                          · exact imp_sub [] [] rfl (hj_13)
                        · exact imp_sub [] [] rfl (hj_13)
                    · by_cases g_19 : (x0) = (nI 44)
                      · refine r_tsIn C 175 (nI 44) g_19 dX12_two_1 (by decide) (by decide) rfl (by decide) ?_
                        refine r_iload_n C 176 1 rfl dX12_two_175 rfl ?_
                        refine imp_jn (fun (j_13 : Option Int32) =>  Imp κ 183 [] [] h (j_13)) ?_ ?_
                        · refine r_iconst C 184 (nI 1) (by decide) dX12_two_183 rfl ?_
                          refine r_goto C 188 dX12_two_184 (by decide) ?_
                          exact r_iret C Rr dX12_two_188 (fun _ => rfl) rfl
                        · intro j_13 hj_13
                          refine r_if_ne C 179 183 dX12_two_176 (by decide) rfl (fun c_14 => ?_) (fun c_14 => ?_)
                          · refine r_iload_n C 180 2 rfl dX12_two_179 rfl ?_
                            refine r_if_eq C 183 187 dX12_two_180 (by decide) rfl (fun c_15 => ?_) (fun c_15 => ?_)
                            · refine r_iconst C 188 (nI 0) (by decide) dX12_two_187 rfl ?_
                              exact r_iret C Rr dX12_two_188 (fun _ => rfl) rfl
                            · exact imp_sub [] [] rfl (hj_13)
                          · exact imp_sub [] [] rfl (hj_13)
                      · by_cases g_20 : (x0) = (nI 46)
                        · refine r_tsIn C 175 (nI 46) g_20 dX12_two_1 (by decide) (by decide) rfl (by decide) ?_
                          refine r_iload_n C 176 1 rfl dX12_two_175 rfl ?_
                          refine imp_jn (fun (j_13 : Option Int32) =>  Imp κ 183 [] [] h (j_13)) ?_ ?_
                          · refine r_iconst C 184 (nI 1) (by decide) dX12_two_183 rfl ?_
                            refine r_goto C 188 dX12_two_184 (by decide) ?_
                            exact r_iret C Rr dX12_two_188 (fun _ => rfl) rfl
                          · intro j_13 hj_13
                            refine r_if_ne C 179 183 dX12_two_176 (by decide) rfl (fun c_14 => ?_) (fun c_14 => ?_)
                            · refine r_iload_n C 180 2 rfl dX12_two_179 rfl ?_
                              refine r_if_eq C 183 187 dX12_two_180 (by decide) rfl (fun c_15 => ?_) (fun c_15 => ?_)
                              · refine r_iconst C 188 (nI 0) (by decide) dX12_two_187 rfl ?_
                                exact r_iret C Rr dX12_two_188 (fun _ => rfl) rfl
                              · exact imp_sub [] [] rfl (hj_13)
                            · exact imp_sub [] [] rfl (hj_13)
                        · by_cases g_21 : (x0) = (nI 47)
                          · refine r_tsIn C 175 (nI 47) g_21 dX12_two_1 (by decide) (by decide) rfl (by decide) ?_
                            refine r_iload_n C 176 1 rfl dX12_two_175 rfl ?_
                            refine imp_jn (fun (j_13 : Option Int32) =>  Imp κ 183 [] [] h (j_13)) ?_ ?_
                            · refine r_iconst C 184 (nI 1) (by decide) dX12_two_183 rfl ?_
                              refine r_goto C 188 dX12_two_184 (by decide) ?_
                              exact r_iret C Rr dX12_two_188 (fun _ => rfl) rfl
                            · intro j_13 hj_13
                              refine r_if_ne C 179 183 dX12_two_176 (by decide) rfl (fun c_14 => ?_) (fun c_14 => ?_)
                              · refine r_iload_n C 180 2 rfl dX12_two_179 rfl ?_
                                refine r_if_eq C 183 187 dX12_two_180 (by decide) rfl (fun c_15 => ?_) (fun c_15 => ?_)
                                · refine r_iconst C 188 (nI 0) (by decide) dX12_two_187 rfl ?_
                                  exact r_iret C Rr dX12_two_188 (fun _ => rfl) rfl
                                · exact imp_sub [] [] rfl (hj_13)
                              · exact imp_sub [] [] rfl (hj_13)
                          · by_cases g_22 : (x0) = (nI 48)
                            · refine r_tsIn C 175 (nI 48) g_22 dX12_two_1 (by decide) (by decide) rfl (by decide) ?_
                              refine r_iload_n C 176 1 rfl dX12_two_175 rfl ?_
                              refine imp_jn (fun (j_13 : Option Int32) =>  Imp κ 183 [] [] h (j_13)) ?_ ?_
                              · refine r_iconst C 184 (nI 1) (by decide) dX12_two_183 rfl ?_
                                refine r_goto C 188 dX12_two_184 (by decide) ?_
                                exact r_iret C Rr dX12_two_188 (fun _ => rfl) rfl
                              · intro j_13 hj_13
                                refine r_if_ne C 179 183 dX12_two_176 (by decide) rfl (fun c_14 => ?_) (fun c_14 => ?_)
                                · refine r_iload_n C 180 2 rfl dX12_two_179 rfl ?_
                                  refine r_if_eq C 183 187 dX12_two_180 (by decide) rfl (fun c_15 => ?_) (fun c_15 => ?_)
                                  · refine r_iconst C 188 (nI 0) (by decide) dX12_two_187 rfl ?_
                                    exact r_iret C Rr dX12_two_188 (fun _ => rfl) rfl
                                  · exact imp_sub [] [] rfl (hj_13)
                                · exact imp_sub [] [] rfl (hj_13)
                            · by_cases g_23 : (x0) = (nI 49)
                              · refine r_tsIn C 175 (nI 49) g_23 dX12_two_1 (by decide) (by decide) rfl (by decide) ?_
                                refine r_iload_n C 176 1 rfl dX12_two_175 rfl ?_
                                refine imp_jn (fun (j_13 : Option Int32) =>  Imp κ 183 [] [] h (j_13)) ?_ ?_
                                · refine r_iconst C 184 (nI 1) (by decide) dX12_two_183 rfl ?_
                                  refine r_goto C 188 dX12_two_184 (by decide) ?_
                                  exact r_iret C Rr dX12_two_188 (fun _ => rfl) rfl
                                · intro j_13 hj_13
                                  refine r_if_ne C 179 183 dX12_two_176 (by decide) rfl (fun c_14 => ?_) (fun c_14 => ?_)
                                  · refine r_iload_n C 180 2 rfl dX12_two_179 rfl ?_
                                    refine r_if_eq C 183 187 dX12_two_180 (by decide) rfl (fun c_15 => ?_) (fun c_15 => ?_)
                                    · refine r_iconst C 188 (nI 0) (by decide) dX12_two_187 rfl ?_
                                      exact r_iret C Rr dX12_two_188 (fun _ => rfl) rfl
                                    · exact imp_sub [] [] rfl (hj_13)
                                  · exact imp_sub [] [] rfl (hj_13)
                              · by_cases g_24 : (x0) = (nI 50)
                                · refine r_tsIn C 175 (nI 50) g_24 dX12_two_1 (by decide) (by decide) rfl (by decide) ?_
                                  refine r_iload_n C 176 1 rfl dX12_two_175 rfl ?_
                                  refine imp_jn (fun (j_13 : Option Int32) =>  Imp κ 183 [] [] h (j_13)) ?_ ?_
                                  · refine r_iconst C 184 (nI 1) (by decide) dX12_two_183 rfl ?_
                                    refine r_goto C 188 dX12_two_184 (by decide) ?_
                                    exact r_iret C Rr dX12_two_188 (fun _ => rfl) rfl
                                  · intro j_13 hj_13
                                    refine r_if_ne C 179 183 dX12_two_176 (by decide) rfl (fun c_14 => ?_) (fun c_14 => ?_)
                                    · refine r_iload_n C 180 2 rfl dX12_two_179 rfl ?_
                                      refine r_if_eq C 183 187 dX12_two_180 (by decide) rfl (fun c_15 => ?_) (fun c_15 => ?_)
                                      · refine r_iconst C 188 (nI 0) (by decide) dX12_two_187 rfl ?_
                                        exact r_iret C Rr dX12_two_188 (fun _ => rfl) rfl
                                      · exact imp_sub [] [] rfl (hj_13)
                                    · exact imp_sub [] [] rfl (hj_13)
                                · by_cases g_25 : (x0) = (nI 51)
                                  · refine r_tsIn C 175 (nI 51) g_25 dX12_two_1 (by decide) (by decide) rfl (by decide) ?_
                                    refine r_iload_n C 176 1 rfl dX12_two_175 rfl ?_
                                    refine imp_jn (fun (j_13 : Option Int32) =>  Imp κ 183 [] [] h (j_13)) ?_ ?_
                                    · refine r_iconst C 184 (nI 1) (by decide) dX12_two_183 rfl ?_
                                      refine r_goto C 188 dX12_two_184 (by decide) ?_
                                      exact r_iret C Rr dX12_two_188 (fun _ => rfl) rfl
                                    · intro j_13 hj_13
                                      refine r_if_ne C 179 183 dX12_two_176 (by decide) rfl (fun c_14 => ?_) (fun c_14 => ?_)
                                      · refine r_iload_n C 180 2 rfl dX12_two_179 rfl ?_
                                        refine r_if_eq C 183 187 dX12_two_180 (by decide) rfl (fun c_15 => ?_) (fun c_15 => ?_)
                                        · refine r_iconst C 188 (nI 0) (by decide) dX12_two_187 rfl ?_
                                          exact r_iret C Rr dX12_two_188 (fun _ => rfl) rfl
                                        · exact imp_sub [] [] rfl (hj_13)
                                      · exact imp_sub [] [] rfl (hj_13)
                                  · by_cases g_26 : (x0) = (nI 52)
                                    · refine r_tsIn C 175 (nI 52) g_26 dX12_two_1 (by decide) (by decide) rfl (by decide) ?_
                                      refine r_iload_n C 176 1 rfl dX12_two_175 rfl ?_
                                      refine imp_jn (fun (j_13 : Option Int32) =>  Imp κ 183 [] [] h (j_13)) ?_ ?_
                                      · refine r_iconst C 184 (nI 1) (by decide) dX12_two_183 rfl ?_
                                        refine r_goto C 188 dX12_two_184 (by decide) ?_
                                        exact r_iret C Rr dX12_two_188 (fun _ => rfl) rfl
                                      · intro j_13 hj_13
                                        refine r_if_ne C 179 183 dX12_two_176 (by decide) rfl (fun c_14 => ?_) (fun c_14 => ?_)
                                        · refine r_iload_n C 180 2 rfl dX12_two_179 rfl ?_
                                          refine r_if_eq C 183 187 dX12_two_180 (by decide) rfl (fun c_15 => ?_) (fun c_15 => ?_)
                                          · refine r_iconst C 188 (nI 0) (by decide) dX12_two_187 rfl ?_
                                            exact r_iret C Rr dX12_two_188 (fun _ => rfl) rfl
                                          · exact imp_sub [] [] rfl (hj_13)
                                        · exact imp_sub [] [] rfl (hj_13)
                                    · by_cases g_27 : (x0) = (nI 53)
                                      · refine r_tsIn C 175 (nI 53) g_27 dX12_two_1 (by decide) (by decide) rfl (by decide) ?_
                                        refine r_iload_n C 176 1 rfl dX12_two_175 rfl ?_
                                        refine imp_jn (fun (j_13 : Option Int32) =>  Imp κ 183 [] [] h (j_13)) ?_ ?_
                                        · refine r_iconst C 184 (nI 1) (by decide) dX12_two_183 rfl ?_
                                          refine r_goto C 188 dX12_two_184 (by decide) ?_
                                          exact r_iret C Rr dX12_two_188 (fun _ => rfl) rfl
                                        · intro j_13 hj_13
                                          refine r_if_ne C 179 183 dX12_two_176 (by decide) rfl (fun c_14 => ?_) (fun c_14 => ?_)
                                          · refine r_iload_n C 180 2 rfl dX12_two_179 rfl ?_
                                            refine r_if_eq C 183 187 dX12_two_180 (by decide) rfl (fun c_15 => ?_) (fun c_15 => ?_)
                                            · refine r_iconst C 188 (nI 0) (by decide) dX12_two_187 rfl ?_
                                              exact r_iret C Rr dX12_two_188 (fun _ => rfl) rfl
                                            · exact imp_sub [] [] rfl (hj_13)
                                          · exact imp_sub [] [] rfl (hj_13)
                                      · by_cases g_28 : (x0) = (nI 54)
                                        · refine r_tsIn C 175 (nI 54) g_28 dX12_two_1 (by decide) (by decide) rfl (by decide) ?_
                                          refine r_iload_n C 176 1 rfl dX12_two_175 rfl ?_
                                          refine imp_jn (fun (j_13 : Option Int32) =>  Imp κ 183 [] [] h (j_13)) ?_ ?_
                                          · refine r_iconst C 184 (nI 1) (by decide) dX12_two_183 rfl ?_
                                            refine r_goto C 188 dX12_two_184 (by decide) ?_
                                            exact r_iret C Rr dX12_two_188 (fun _ => rfl) rfl
                                          · intro j_13 hj_13
                                            refine r_if_ne C 179 183 dX12_two_176 (by decide) rfl (fun c_14 => ?_) (fun c_14 => ?_)
                                            · refine r_iload_n C 180 2 rfl dX12_two_179 rfl ?_
                                              refine r_if_eq C 183 187 dX12_two_180 (by decide) rfl (fun c_15 => ?_) (fun c_15 => ?_)
                                              · refine r_iconst C 188 (nI 0) (by decide) dX12_two_187 rfl ?_
                                                exact r_iret C Rr dX12_two_188 (fun _ => rfl) rfl
                                              · exact imp_sub [] [] rfl (hj_13)
                                            · exact imp_sub [] [] rfl (hj_13)
                                        · by_cases g_29 : (x0) = (nI 55)
                                          · refine r_tsIn C 175 (nI 55) g_29 dX12_two_1 (by decide) (by decide) rfl (by decide) ?_
                                            refine r_iload_n C 176 1 rfl dX12_two_175 rfl ?_
                                            refine imp_jn (fun (j_13 : Option Int32) =>  Imp κ 183 [] [] h (j_13)) ?_ ?_
                                            · refine r_iconst C 184 (nI 1) (by decide) dX12_two_183 rfl ?_
                                              refine r_goto C 188 dX12_two_184 (by decide) ?_
                                              exact r_iret C Rr dX12_two_188 (fun _ => rfl) rfl
                                            · intro j_13 hj_13
                                              refine r_if_ne C 179 183 dX12_two_176 (by decide) rfl (fun c_14 => ?_) (fun c_14 => ?_)
                                              · refine r_iload_n C 180 2 rfl dX12_two_179 rfl ?_
                                                refine r_if_eq C 183 187 dX12_two_180 (by decide) rfl (fun c_15 => ?_) (fun c_15 => ?_)
                                                · refine r_iconst C 188 (nI 0) (by decide) dX12_two_187 rfl ?_
                                                  exact r_iret C Rr dX12_two_188 (fun _ => rfl) rfl
                                                · exact imp_sub [] [] rfl (hj_13)
                                              · exact imp_sub [] [] rfl (hj_13)
                                          · by_cases g_30 : (x0) = (nI 56)
                                            · refine r_tsIn C 175 (nI 56) g_30 dX12_two_1 (by decide) (by decide) rfl (by decide) ?_
                                              refine r_iload_n C 176 1 rfl dX12_two_175 rfl ?_
                                              refine imp_jn (fun (j_13 : Option Int32) =>  Imp κ 183 [] [] h (j_13)) ?_ ?_
                                              · refine r_iconst C 184 (nI 1) (by decide) dX12_two_183 rfl ?_
                                                refine r_goto C 188 dX12_two_184 (by decide) ?_
                                                exact r_iret C Rr dX12_two_188 (fun _ => rfl) rfl
                                              · intro j_13 hj_13
                                                refine r_if_ne C 179 183 dX12_two_176 (by decide) rfl (fun c_14 => ?_) (fun c_14 => ?_)
                                                · refine r_iload_n C 180 2 rfl dX12_two_179 rfl ?_
                                                  refine r_if_eq C 183 187 dX12_two_180 (by decide) rfl (fun c_15 => ?_) (fun c_15 => ?_)
                                                  · refine r_iconst C 188 (nI 0) (by decide) dX12_two_187 rfl ?_
                                                    exact r_iret C Rr dX12_two_188 (fun _ => rfl) rfl
                                                  · exact imp_sub [] [] rfl (hj_13)
                                                · exact imp_sub [] [] rfl (hj_13)
                                            · by_cases g_31 : (x0) = (nI 57)
                                              · refine r_tsIn C 175 (nI 57) g_31 dX12_two_1 (by decide) (by decide) rfl (by decide) ?_
                                                refine r_iload_n C 176 1 rfl dX12_two_175 rfl ?_
                                                refine imp_jn (fun (j_13 : Option Int32) =>  Imp κ 183 [] [] h (j_13)) ?_ ?_
                                                · refine r_iconst C 184 (nI 1) (by decide) dX12_two_183 rfl ?_
                                                  refine r_goto C 188 dX12_two_184 (by decide) ?_
                                                  exact r_iret C Rr dX12_two_188 (fun _ => rfl) rfl
                                                · intro j_13 hj_13
                                                  refine r_if_ne C 179 183 dX12_two_176 (by decide) rfl (fun c_14 => ?_) (fun c_14 => ?_)
                                                  · refine r_iload_n C 180 2 rfl dX12_two_179 rfl ?_
                                                    refine r_if_eq C 183 187 dX12_two_180 (by decide) rfl (fun c_15 => ?_) (fun c_15 => ?_)
                                                    · refine r_iconst C 188 (nI 0) (by decide) dX12_two_187 rfl ?_
                                                      exact r_iret C Rr dX12_two_188 (fun _ => rfl) rfl
                                                    · exact imp_sub [] [] rfl (hj_13)
                                                  · exact imp_sub [] [] rfl (hj_13)
                                              · by_cases g_32 : (x0) = (nI 58)
                                                · refine r_tsIn C 175 (nI 58) g_32 dX12_two_1 (by decide) (by decide) rfl (by decide) ?_
                                                  refine r_iload_n C 176 1 rfl dX12_two_175 rfl ?_
                                                  refine imp_jn (fun (j_13 : Option Int32) =>  Imp κ 183 [] [] h (j_13)) ?_ ?_
                                                  · refine r_iconst C 184 (nI 1) (by decide) dX12_two_183 rfl ?_
                                                    refine r_goto C 188 dX12_two_184 (by decide) ?_
                                                    exact r_iret C Rr dX12_two_188 (fun _ => rfl) rfl
                                                  · intro j_13 hj_13
                                                    refine r_if_ne C 179 183 dX12_two_176 (by decide) rfl (fun c_14 => ?_) (fun c_14 => ?_)
                                                    · refine r_iload_n C 180 2 rfl dX12_two_179 rfl ?_
                                                      refine r_if_eq C 183 187 dX12_two_180 (by decide) rfl (fun c_15 => ?_) (fun c_15 => ?_)
                                                      · refine r_iconst C 188 (nI 0) (by decide) dX12_two_187 rfl ?_
                                                        exact r_iret C Rr dX12_two_188 (fun _ => rfl) rfl
                                                      · exact imp_sub [] [] rfl (hj_13)
                                                    · exact imp_sub [] [] rfl (hj_13)
                                                · by_cases g_33 : (x0) = (nI 59)
                                                  · refine r_tsIn C 175 (nI 59) g_33 dX12_two_1 (by decide) (by decide) rfl (by decide) ?_
                                                    refine r_iload_n C 176 1 rfl dX12_two_175 rfl ?_
                                                    refine imp_jn (fun (j_13 : Option Int32) =>  Imp κ 183 [] [] h (j_13)) ?_ ?_
                                                    · refine r_iconst C 184 (nI 1) (by decide) dX12_two_183 rfl ?_
                                                      refine r_goto C 188 dX12_two_184 (by decide) ?_
                                                      exact r_iret C Rr dX12_two_188 (fun _ => rfl) rfl
                                                    · intro j_13 hj_13
                                                      refine r_if_ne C 179 183 dX12_two_176 (by decide) rfl (fun c_14 => ?_) (fun c_14 => ?_)
                                                      · refine r_iload_n C 180 2 rfl dX12_two_179 rfl ?_
                                                        refine r_if_eq C 183 187 dX12_two_180 (by decide) rfl (fun c_15 => ?_) (fun c_15 => ?_)
                                                        · refine r_iconst C 188 (nI 0) (by decide) dX12_two_187 rfl ?_
                                                          exact r_iret C Rr dX12_two_188 (fun _ => rfl) rfl
                                                        · exact imp_sub [] [] rfl (hj_13)
                                                      · exact imp_sub [] [] rfl (hj_13)
                                                  · refine r_tsOut C 175 dX12_two_1 (ts_out ?_) (by decide) ?_
                                                    · intro v h1 h2 e
                                                      have hv : v = 38 ∨ v = 39 ∨ v = 40 ∨ v = 41 ∨ v = 42 ∨ v = 43 ∨ v = 44 ∨ v = 45 ∨ v = 46 ∨ v = 47 ∨ v = 48 ∨ v = 49 ∨ v = 50 ∨ v = 51 ∨ v = 52 ∨ v = 53 ∨ v = 54 ∨ v = 55 ∨ v = 56 ∨ v = 57 ∨ v = 58 ∨ v = 59 ∨ v = 60 ∨ v = 61 ∨ v = 62 := by omega
                                                      rcases hv with rfl | rfl | rfl | rfl | rfl | rfl | rfl | rfl | rfl | rfl | rfl | rfl | rfl | rfl | rfl | rfl | rfl | rfl | rfl | rfl | rfl | rfl | rfl | rfl | rfl
                                                      · exact g_1 (e.trans (by decide))
                                                      · exact g_16 (e.trans (by decide))
                                                      · exact g_17 (e.trans (by decide))
                                                      · exact g_18 (e.trans (by decide))
                                                      · exact g_4 (e.trans (by decide))
                                                      · exact g_5 (e.trans (by decide))
                                                      · exact g_19 (e.trans (by decide))
                                                      · exact g_6 (e.trans (by decide))
                                                      · exact g_20 (e.trans (by decide))
                                                      · exact g_21 (e.trans (by decide))
                                                      · exact g_22 (e.trans (by decide))
                                                      · exact g_23 (e.trans (by decide))
                                                      · exact g_24 (e.trans (by decide))
                                                      · exact g_25 (e.trans (by decide))
                                                      · exact g_26 (e.trans (by decide))
                                                      · exact g_27 (e.trans (by decide))
                                                      · exact g_28 (e.trans (by decide))
                                                      · exact g_29 (e.trans (by decide))
                                                      · exact g_30 (e.trans (by decide))
                                                      · exact g_31 (e.trans (by decide))
                                                      · exact g_32 (e.trans (by decide))
                                                      · exact g_33 (e.trans (by decide))
                                                      · exact g_7 (e.trans (by decide))
                                                      · exact g_9 (e.trans (by decide))
                                                      · exact g_11 (e.trans (by decide))
                                                    · refine r_iload_n C 176 1 rfl dX12_two_175 rfl ?_
                                                      refine imp_jn (fun (j_13 : Option Int32) =>  Imp κ 183 [] [] h (j_13)) ?_ ?_
                                                      · refine r_iconst C 184 (nI 1) (by decide) dX12_two_183 rfl ?_
                                                        refine r_goto C 188 dX12_two_184 (by decide) ?_
                                                        exact r_iret C Rr dX12_two_188 (fun _ => rfl) rfl
                                                      · intro j_13 hj_13
                                                        refine r_if_ne C 179 183 dX12_two_176 (by decide) rfl (fun c_14 => ?_) (fun c_14 => ?_)
                                                        · refine r_iload_n C 180 2 rfl dX12_two_179 rfl ?_
                                                          refine r_if_eq C 183 187 dX12_two_180 (by decide) rfl (fun c_15 => ?_) (fun c_15 => ?_)
                                                          · refine r_iconst C 188 (nI 0) (by decide) dX12_two_187 rfl ?_
                                                            exact r_iret C Rr dX12_two_188 (fun _ => rfl) rfl
                                                          · exact imp_sub [] [] rfl (hj_13)
                                                        · exact imp_sub [] [] rfl (hj_13)
set_option maxHeartbeats 4000000 in
theorem ok_f_X12_two (x0 : Int32) (x1 : Int32) (x2 : Int32)  (h : CH) : ∀ q, f_X12_two x0 x1 x2 h = some q → MG yX12_two cX12_two 3 (some .int) [] 1 (fun ad => [.int x0, .int x1, .int x2]) h ((fun (x : Int32) (_ : Nat → Nat) => some (Value.int x)) q) ((fun (_ : Int32) => h) q) := mg_of RX12 (by decide) rfl (fun _ => Nat.le_of_ble_eq_true rfl) (fun κ C Rr => imp_f_X12_two C x0 x1 x2 h Rr)
set_option maxHeartbeats 4000000 in
set_option maxRecDepth 100000 in
theorem imp_f_X12_edgeOf_L4 {κ : Kx Int32} (C : Cx κ cX12_edgeOf RX12 3 2 (40 * 2) []) (h : CH)    (Rr : Rt κ (some .int) (fun (x : Int32) (_ : Nat → Nat) => some (Value.int x)) (fun (_ : Int32) => h)) : ∀ (n : Nat) (x1 : Int32) (x2 : Int32), Imp κ 4 [(0, .ref (kad κ 151)), (1, .int (x1)), (2, .int (x2))] [] h (f_X12_edgeOf_L4 h n x1 x2) := by
  intro n
  induction n with
  | zero => intros; exact imp_none
  | succ n ih =>
    intro x1 x2
    rw [f_X12_edgeOf_L4]
    refine r_iload_n C 5 2 rfl dX12_edgeOf_4 rfl ?_
    refine r_aload_n C 6 0 rfl dX12_edgeOf_5 rfl ?_
    refine r_cVpI C 9 [.int (x2)] (ok_f_X12_pointMany h) dX12_edgeOf_6 lvX12_406 kt_151 rfl rfl rfl (by decide) (Nat.le_of_ble_eq_true rfl) rfl rfl (Nat.le_of_ble_eq_true rfl) rfl rfl (fun v_1 => ?_)
    refine r_icmp_ge C 12 39 dX12_edgeOf_9 (by decide) rfl (fun c_2 => ?_) (fun c_2 => ?_)
    · refine r_iload_n C 13 1 rfl dX12_edgeOf_12 rfl ?_
      refine r_aload_n C 14 0 rfl dX12_edgeOf_13 rfl ?_
      refine r_getR C 17 dX12_edgeOf_14 flX12_89 kt_151 rfl rf_151_52 rfl ?_
      refine r_iload_n C 18 2 rfl dX12_edgeOf_17 rfl ?_
      refine r_iald C 19 dX12_edgeOf_18 kt_176 rfl rfl (fun v_3 => ?_)
      refine r_aload_n C 20 0 rfl dX12_edgeOf_19 rfl ?_
      refine r_getR C 23 dX12_edgeOf_20 flX12_89 kt_151 rfl rf_151_52 rfl ?_
      refine r_iload_n C 24 2 rfl dX12_edgeOf_23 rfl ?_
      refine r_iconst C 25 (nI 1) (by decide) dX12_edgeOf_24 rfl ?_
      refine r_isub C 26 dX12_edgeOf_25 rfl ?_
      refine r_iald C 27 dX12_edgeOf_26 kt_176 rfl rfl (fun v_4 => ?_)
      refine r_isub C 28 dX12_edgeOf_27 rfl ?_
      refine r_cSpI C 31 [.int (x1)] (ok_f_X12_sizeOf ((v_3) - (v_4)) h) dX12_edgeOf_28 lsX12_412 rfl (by decide) (Nat.le_of_ble_eq_true rfl) rfl rfl (Nat.le_of_ble_eq_true rfl) rfl rfl (fun v_5 => ?_)
      refine r_iadd C 32 dX12_edgeOf_31 rfl ?_
      refine r_istore_n C 33 1 [(1, .int ((x1) + (v_5))), (0, .ref (kad κ 151)), (2, .int (x2))] dX12_edgeOf_32 rfl (by decide) rfl rfl ?_
      refine r_iinc C 36 2 (nI 1) [(2, .int (x2 + (nI 1))), (1, .int ((x1) + (v_5))), (0, .ref (kad κ 151))] dX12_edgeOf_33 rfl (by decide) (by decide) rfl rfl ?_
      refine r_goto C 4 dX12_edgeOf_36 (by decide) ?_
      exact imp_sub [(0, .ref (kad κ 151)), (1, .int ((x1) + (v_5))), (2, .int (x2 + (nI 1)))] [2, 1, 0] rfl (ih ((x1) + (v_5)) (x2 + (nI 1)))
    · refine r_iload_n C 40 1 rfl dX12_edgeOf_39 rfl ?_
      exact r_iret C Rr dX12_edgeOf_40 (fun _ => rfl) rfl
set_option maxHeartbeats 4000000 in
set_option maxRecDepth 100000 in
theorem imp_f_X12_edgeOf {κ : Kx Int32} (C : Cx κ cX12_edgeOf RX12 3 2 (40 * 2) [])   (h : CH) (Rr : Rt κ (some .int) (fun (x : Int32) (_ : Nat → Nat) => some (Value.int x)) (fun (_ : Int32) => h)) : Imp κ 0 [(0, .ref (kad κ 151))] [] h (f_X12_edgeOf h) := by
  unfold f_X12_edgeOf
  refine r_iconst C 1 (nI 0) (by decide) dX12_edgeOf_0 rfl ?_
  refine r_istore_n C 2 1 [(1, .int ((nI 0))), (0, .ref (kad κ 151))] dX12_edgeOf_1 rfl (by decide) rfl rfl ?_
  refine r_iconst C 3 (nI 1) (by decide) dX12_edgeOf_2 rfl ?_
  refine r_istore_n C 4 2 [(2, .int ((nI 1))), (1, .int ((nI 0))), (0, .ref (kad κ 151))] dX12_edgeOf_3 rfl (by decide) rfl rfl ?_
  refine imp_sub [(0, .ref (kad κ 151)), (1, .int ((nI 0))), (2, .int ((nI 1)))] [2, 1, 0] rfl ?_
  refine imp_f_X12_edgeOf_L4 C h Rr FU ((nI 0)) ((nI 1))
set_option maxHeartbeats 4000000 in
theorem ok_f_X12_edgeOf   (h : CH) : ∀ q, f_X12_edgeOf h = some q → MG yX12_edgeOf cX12_edgeOf 3 (some .int) [] 2 (fun ad => [.ref (ad 151)]) h ((fun (x : Int32) (_ : Nat → Nat) => some (Value.int x)) q) ((fun (_ : Int32) => h) q) := mg_of RX12 (by decide) rfl (fun _ => Nat.le_of_ble_eq_true rfl) (fun κ C Rr => imp_f_X12_edgeOf C  h Rr)
set_option maxHeartbeats 4000000 in
set_option maxRecDepth 100000 in
theorem imp_f_X12_endOf_L9 {κ : Kx Int32} (C : Cx κ cX12_endOf RX12 4 2 (40 * 2) []) (x1 : Int32) (h : CH)    (Rr : Rt κ (some .int) (fun (x : Int32) (_ : Nat → Nat) => some (Value.int x)) (fun (_ : Int32) => h)) : ∀ (n : Nat) (x2 : Int32) (x3 : Int32), Imp κ 9 [(0, .ref (kad κ 151)), (1, .int (x1)), (2, .int (x2)), (3, .int (x3))] [] h (f_X12_endOf_L9 x1 h n x2 x3) := by
  intro n
  induction n with
  | zero => intros; exact imp_none
  | succ n ih =>
    intro x2 x3
    rw [f_X12_endOf_L9]
    refine r_iload_n C 10 3 rfl dX12_endOf_9 rfl ?_
    refine r_aload_n C 11 0 rfl dX12_endOf_10 rfl ?_
    refine r_cVpI C 14 [.int (x3)] (ok_f_X12_pointMany h) dX12_endOf_11 lvX12_406 kt_151 rfl rfl rfl (by decide) (Nat.le_of_ble_eq_true rfl) rfl rfl (Nat.le_of_ble_eq_true rfl) rfl rfl (fun v_2 => ?_)
    refine r_icmp_ge C 17 57 dX12_endOf_14 (by decide) rfl (fun c_3 => ?_) (fun c_3 => ?_)
    · refine r_iload_n C 18 1 rfl dX12_endOf_17 rfl ?_
      refine imp_jn (fun (j_5 : Int32 → Option Int32) => ∀ (x2_4 : Int32), Imp κ 51 [(0, .ref (kad κ 151)), (1, .int (x1)), (2, .int (x2_4)), (3, .int (x3))] [] h (j_5 x2_4)) ?_ ?_
      · intro x2_4
        refine r_iinc C 54 3 (nI 1) [(3, .int (x3 + (nI 1))), (0, .ref (kad κ 151)), (1, .int (x1)), (2, .int (x2_4))] dX12_endOf_51 rfl (by decide) (by decide) rfl rfl ?_
        refine r_goto C 9 dX12_endOf_54 (by decide) ?_
        exact imp_sub [(0, .ref (kad κ 151)), (1, .int (x1)), (2, .int (x2_4)), (3, .int (x3 + (nI 1)))] [1, 2, 3, 0] rfl (ih (x2_4) (x3 + (nI 1)))
      · intro j_5 hj_5
        refine imp_jn (fun (j_6 : Option Int32) =>  Imp κ 44 [(0, .ref (kad κ 151)), (1, .int (x1)), (3, .int (x3))] [] h (j_6)) ?_ ?_
        · refine r_aload_n C 45 0 rfl dX12_endOf_44 rfl ?_
          refine r_getR C 48 dX12_endOf_45 flX12_89 kt_151 rfl rf_151_52 rfl ?_
          refine r_iload_n C 49 2 rfl dX12_endOf_48 rfl ?_
          refine r_iald C 50 dX12_endOf_49 kt_176 rfl rfl (fun v_7 => ?_)
          refine r_istore_n C 51 2 [(2, .int (v_7)), (0, .ref (kad κ 151)), (1, .int (x1)), (3, .int (x3))] dX12_endOf_50 rfl (by decide) rfl rfl ?_
          exact imp_sub [(0, .ref (kad κ 151)), (1, .int (x1)), (2, .int (v_7)), (3, .int (x3))] [1, 2, 0, 3] rfl (hj_5 (v_7))
        · intro j_6 hj_6
          refine r_if_eq C 21 34 dX12_endOf_18 (by decide) rfl (fun c_8 => ?_) (fun c_8 => ?_)
          · refine r_aload_n C 35 0 rfl dX12_endOf_34 rfl ?_
            refine r_getR C 38 dX12_endOf_35 flX12_89 kt_151 rfl rf_151_52 rfl ?_
            refine r_iload_n C 39 3 rfl dX12_endOf_38 rfl ?_
            refine r_iald C 40 dX12_endOf_39 kt_176 rfl rfl (fun v_9 => ?_)
            refine r_iload_n C 41 2 rfl dX12_endOf_40 rfl ?_
            refine r_icmp_ge C 44 51 dX12_endOf_41 (by decide) rfl (fun c_10 => ?_) (fun c_10 => ?_)
            · exact imp_sub [(0, .ref (kad κ 151)), (1, .int (x1)), (3, .int (x3))] [0, 1, 3] rfl (hj_6)
            · exact imp_sub [(0, .ref (kad κ 151)), (1, .int (x1)), (2, .int (x2)), (3, .int (x3))] [0, 1, 2, 3] rfl (hj_5 (x2))
          · refine r_aload_n C 22 0 rfl dX12_endOf_21 rfl ?_
            refine r_getR C 25 dX12_endOf_22 flX12_89 kt_151 rfl rf_151_52 rfl ?_
            refine r_iload_n C 26 3 rfl dX12_endOf_25 rfl ?_
            refine r_iald C 27 dX12_endOf_26 kt_176 rfl rfl (fun v_11 => ?_)
            refine r_iload_n C 28 2 rfl dX12_endOf_27 rfl ?_
            refine r_icmp_le C 31 51 dX12_endOf_28 (by decide) rfl (fun c_12 => ?_) (fun c_12 => ?_)
            · refine r_goto C 44 dX12_endOf_31 (by decide) ?_
              exact imp_sub [(0, .ref (kad κ 151)), (1, .int (x1)), (3, .int (x3))] [0, 1, 3] rfl (hj_6)
            · exact imp_sub [(0, .ref (kad κ 151)), (1, .int (x1)), (2, .int (x2)), (3, .int (x3))] [0, 1, 2, 3] rfl (hj_5 (x2))
    · refine r_iload_n C 58 2 rfl dX12_endOf_57 rfl ?_
      exact r_iret C Rr dX12_endOf_58 (fun _ => rfl) rfl
set_option maxHeartbeats 4000000 in
set_option maxRecDepth 100000 in
theorem imp_f_X12_endOf {κ : Kx Int32} (C : Cx κ cX12_endOf RX12 4 2 (40 * 2) []) (x1 : Int32)  (h : CH) (Rr : Rt κ (some .int) (fun (x : Int32) (_ : Nat → Nat) => some (Value.int x)) (fun (_ : Int32) => h)) : Imp κ 0 [(0, .ref (kad κ 151)), (1, .int (x1))] [] h (f_X12_endOf x1 h) := by
  unfold f_X12_endOf
  refine r_aload_n C 1 0 rfl dX12_endOf_0 rfl ?_
  refine r_getR C 4 dX12_endOf_1 flX12_89 kt_151 rfl rf_151_52 rfl ?_
  refine r_iconst C 5 (nI 0) (by decide) dX12_endOf_4 rfl ?_
  refine r_iald C 6 dX12_endOf_5 kt_176 rfl rfl (fun v_1 => ?_)
  refine r_istore_n C 7 2 [(2, .int (v_1)), (0, .ref (kad κ 151)), (1, .int (x1))] dX12_endOf_6 rfl (by decide) rfl rfl ?_
  refine r_iconst C 8 (nI 1) (by decide) dX12_endOf_7 rfl ?_
  refine r_istore_n C 9 3 [(3, .int ((nI 1))), (2, .int (v_1)), (0, .ref (kad κ 151)), (1, .int (x1))] dX12_endOf_8 rfl (by decide) rfl rfl ?_
  refine imp_sub [(0, .ref (kad κ 151)), (1, .int (x1)), (2, .int (v_1)), (3, .int ((nI 1)))] [2, 3, 1, 0] rfl ?_
  refine imp_f_X12_endOf_L9 C (x1) h Rr FU (v_1) ((nI 1))
set_option maxHeartbeats 4000000 in
theorem ok_f_X12_endOf (x1 : Int32)  (h : CH) : ∀ q, f_X12_endOf x1 h = some q → MG yX12_endOf cX12_endOf 4 (some .int) [] 2 (fun ad => [.ref (ad 151), .int x1]) h ((fun (x : Int32) (_ : Nat → Nat) => some (Value.int x)) q) ((fun (_ : Int32) => h) q) := mg_of RX12 (by decide) rfl (fun _ => Nat.le_of_ble_eq_true rfl) (fun κ C Rr => imp_f_X12_endOf C x1 h Rr)
set_option maxHeartbeats 4000000 in
set_option maxRecDepth 100000 in
theorem imp_f_X12_sumOf_L4 {κ : Kx Int32} (C : Cx κ cX12_sumOf RX12 3 2 (40 * 2) []) (h : CH)    (Rr : Rt κ (some .int) (fun (x : Int32) (_ : Nat → Nat) => some (Value.int x)) (fun (_ : Int32) => h)) : ∀ (n : Nat) (x1 : Int32) (x2 : Int32), Imp κ 4 [(0, .ref (kad κ 151)), (1, .int (x1)), (2, .int (x2))] [] h (f_X12_sumOf_L4 h n x1 x2) := by
  intro n
  induction n with
  | zero => intros; exact imp_none
  | succ n ih =>
    intro x1 x2
    rw [f_X12_sumOf_L4]
    refine r_iload_n C 5 2 rfl dX12_sumOf_4 rfl ?_
    refine r_aload_n C 6 0 rfl dX12_sumOf_5 rfl ?_
    refine r_cVpI C 9 [.int (x2)] (ok_f_X12_pointMany h) dX12_sumOf_6 lvX12_406 kt_151 rfl rfl rfl (by decide) (Nat.le_of_ble_eq_true rfl) rfl rfl (Nat.le_of_ble_eq_true rfl) rfl rfl (fun v_1 => ?_)
    refine r_icmp_ge C 12 27 dX12_sumOf_9 (by decide) rfl (fun c_2 => ?_) (fun c_2 => ?_)
    · refine r_iload_n C 13 1 rfl dX12_sumOf_12 rfl ?_
      refine r_aload_n C 14 0 rfl dX12_sumOf_13 rfl ?_
      refine r_getR C 17 dX12_sumOf_14 flX12_89 kt_151 rfl rf_151_52 rfl ?_
      refine r_iload_n C 18 2 rfl dX12_sumOf_17 rfl ?_
      refine r_iald C 19 dX12_sumOf_18 kt_176 rfl rfl (fun v_3 => ?_)
      refine r_iadd C 20 dX12_sumOf_19 rfl ?_
      refine r_istore_n C 21 1 [(1, .int ((x1) + (v_3))), (0, .ref (kad κ 151)), (2, .int (x2))] dX12_sumOf_20 rfl (by decide) rfl rfl ?_
      refine r_iinc C 24 2 (nI 1) [(2, .int (x2 + (nI 1))), (1, .int ((x1) + (v_3))), (0, .ref (kad κ 151))] dX12_sumOf_21 rfl (by decide) (by decide) rfl rfl ?_
      refine r_goto C 4 dX12_sumOf_24 (by decide) ?_
      exact imp_sub [(0, .ref (kad κ 151)), (1, .int ((x1) + (v_3))), (2, .int (x2 + (nI 1)))] [2, 1, 0] rfl (ih ((x1) + (v_3)) (x2 + (nI 1)))
    · refine r_iload_n C 28 1 rfl dX12_sumOf_27 rfl ?_
      exact r_iret C Rr dX12_sumOf_28 (fun _ => rfl) rfl
set_option maxHeartbeats 4000000 in
set_option maxRecDepth 100000 in
theorem imp_f_X12_sumOf {κ : Kx Int32} (C : Cx κ cX12_sumOf RX12 3 2 (40 * 2) [])   (h : CH) (Rr : Rt κ (some .int) (fun (x : Int32) (_ : Nat → Nat) => some (Value.int x)) (fun (_ : Int32) => h)) : Imp κ 0 [(0, .ref (kad κ 151))] [] h (f_X12_sumOf h) := by
  unfold f_X12_sumOf
  refine r_iconst C 1 (nI 0) (by decide) dX12_sumOf_0 rfl ?_
  refine r_istore_n C 2 1 [(1, .int ((nI 0))), (0, .ref (kad κ 151))] dX12_sumOf_1 rfl (by decide) rfl rfl ?_
  refine r_iconst C 3 (nI 0) (by decide) dX12_sumOf_2 rfl ?_
  refine r_istore_n C 4 2 [(2, .int ((nI 0))), (1, .int ((nI 0))), (0, .ref (kad κ 151))] dX12_sumOf_3 rfl (by decide) rfl rfl ?_
  refine imp_sub [(0, .ref (kad κ 151)), (1, .int ((nI 0))), (2, .int ((nI 0)))] [2, 1, 0] rfl ?_
  refine imp_f_X12_sumOf_L4 C h Rr FU ((nI 0)) ((nI 0))
set_option maxHeartbeats 4000000 in
theorem ok_f_X12_sumOf   (h : CH) : ∀ q, f_X12_sumOf h = some q → MG yX12_sumOf cX12_sumOf 3 (some .int) [] 2 (fun ad => [.ref (ad 151)]) h ((fun (x : Int32) (_ : Nat → Nat) => some (Value.int x)) q) ((fun (_ : Int32) => h) q) := mg_of RX12 (by decide) rfl (fun _ => Nat.le_of_ble_eq_true rfl) (fun κ C Rr => imp_f_X12_sumOf C  h Rr)
set_option maxHeartbeats 4000000 in
set_option maxRecDepth 100000 in
theorem imp_f_X12_worth {κ : Kx Int32} (C : Cx κ cX12_worth RX12 3 3 (40 * 3) []) (x1 : Int32) (x2 : Int32)  (h : CH) (Rr : Rt κ (some .int) (fun (x : Int32) (_ : Nat → Nat) => some (Value.int x)) (fun (_ : Int32) => h)) : Imp κ 0 [(0, .ref (kad κ 151)), (1, .int (x1)), (2, .int (x2))] [] h (f_X12_worth x1 x2 h) := by
  unfold f_X12_worth
  refine r_iload_n C 1 1 rfl dX12_worth_0 rfl ?_
  refine imp_ite (fun g_1 => ?_) (fun g_1 => ?_)
  · refine r_tsIn C 127 (nI 101) g_1 dX12_worth_1 (by decide) (by decide) rfl (by decide) ?_
    refine r_aload_n C 128 0 rfl dX12_worth_127 rfl ?_
    refine r_cVpI C 131 [] (ok_f_X12_edgeOf h) dX12_worth_128 lvX12_385 kt_151 rfl rfl rfl (by decide) (Nat.le_of_ble_eq_true rfl) rfl rfl (Nat.le_of_ble_eq_true rfl) rfl rfl (fun v_2 => ?_)
    exact r_iret C Rr dX12_worth_131 (fun _ => rfl) rfl
  · refine imp_ite (fun g_3 => ?_) (fun g_3 => ?_)
    · refine r_tsIn C 102 (nI 102) g_3 dX12_worth_1 (by decide) (by decide) rfl (by decide) ?_
      refine r_aload_n C 103 0 rfl dX12_worth_102 rfl ?_
      refine r_getI C 106 dX12_worth_103 flX12_370 kt_151 rfl rfl ?_
      exact r_iret C Rr dX12_worth_106 (fun _ => rfl) rfl
    · refine imp_ite (fun g_4 => ?_) (fun g_4 => ?_)
      · refine r_tsIn C 107 (nI 107) g_4 dX12_worth_1 (by decide) (by decide) rfl (by decide) ?_
        refine r_aload_n C 108 0 rfl dX12_worth_107 rfl ?_
        refine r_getI C 111 dX12_worth_108 flX12_373 kt_151 rfl rfl ?_
        exact r_iret C Rr dX12_worth_111 (fun _ => rfl) rfl
      · refine imp_ite (fun g_5 => ?_) (fun g_5 => ?_)
        · refine r_tsIn C 117 (nI 108) g_5 dX12_worth_1 (by decide) (by decide) rfl (by decide) ?_
          refine r_aload_n C 118 0 rfl dX12_worth_117 rfl ?_
          refine r_getI C 121 dX12_worth_118 flX12_379 kt_151 rfl rfl ?_
          exact r_iret C Rr dX12_worth_121 (fun _ => rfl) rfl
        · refine imp_ite (fun g_6 => ?_) (fun g_6 => ?_)
          · refine r_tsIn C 132 (nI 109) g_6 dX12_worth_1 (by decide) (by decide) rfl (by decide) ?_
            refine r_aload_n C 133 0 rfl dX12_worth_132 rfl ?_
            refine r_iconst C 134 (nI 1) (by decide) dX12_worth_133 rfl ?_
            refine r_cVpI C 137 [] (ok_f_X12_endOf ((nI 1)) h) dX12_worth_134 lvX12_388 kt_151 rfl rfl rfl (by decide) (Nat.le_of_ble_eq_true rfl) rfl rfl (Nat.le_of_ble_eq_true rfl) rfl rfl (fun v_7 => ?_)
            exact r_iret C Rr dX12_worth_137 (fun _ => rfl) rfl
          · refine imp_ite (fun g_8 => ?_) (fun g_8 => ?_)
            · refine r_tsIn C 100 (nI 110) g_8 dX12_worth_1 (by decide) (by decide) rfl (by decide) ?_
              refine r_iload_n C 101 2 rfl dX12_worth_100 rfl ?_
              exact r_iret C Rr dX12_worth_101 (fun _ => rfl) rfl
            · refine imp_ite (fun g_9 => ?_) (fun g_9 => ?_)
              · refine r_tsIn C 138 (nI 113) g_9 dX12_worth_1 (by decide) (by decide) rfl (by decide) ?_
                refine r_aload_n C 139 0 rfl dX12_worth_138 rfl ?_
                refine r_iconst C 140 (nI 0) (by decide) dX12_worth_139 rfl ?_
                refine r_cVpI C 143 [] (ok_f_X12_endOf ((nI 0)) h) dX12_worth_140 lvX12_388 kt_151 rfl rfl rfl (by decide) (Nat.le_of_ble_eq_true rfl) rfl rfl (Nat.le_of_ble_eq_true rfl) rfl rfl (fun v_10 => ?_)
                exact r_iret C Rr dX12_worth_143 (fun _ => rfl) rfl
              · refine imp_ite (fun g_11 => ?_) (fun g_11 => ?_)
                · refine r_tsIn C 122 (nI 115) g_11 dX12_worth_1 (by decide) (by decide) rfl (by decide) ?_
                  refine r_aload_n C 123 0 rfl dX12_worth_122 rfl ?_
                  refine r_cVpI C 126 [] (ok_f_X12_sumOf h) dX12_worth_123 lvX12_382 kt_151 rfl rfl rfl (by decide) (Nat.le_of_ble_eq_true rfl) rfl rfl (Nat.le_of_ble_eq_true rfl) rfl rfl (fun v_12 => ?_)
                  exact r_iret C Rr dX12_worth_126 (fun _ => rfl) rfl
                · refine imp_ite (fun g_13 => ?_) (fun g_13 => ?_)
                  · refine r_tsIn C 112 (nI 121) g_13 dX12_worth_1 (by decide) (by decide) rfl (by decide) ?_
                    refine r_aload_n C 113 0 rfl dX12_worth_112 rfl ?_
                    refine r_getI C 116 dX12_worth_113 flX12_376 kt_151 rfl rfl ?_
                    exact r_iret C Rr dX12_worth_116 (fun _ => rfl) rfl
                  · by_cases g_15 : (x1) = (nI 103)
                    · refine r_tsIn C 144 (nI 103) g_15 dX12_worth_1 (by decide) (by decide) rfl (by decide) ?_
                      refine r_aload_n C 145 0 rfl dX12_worth_144 rfl ?_
                      refine r_getR C 148 dX12_worth_145 flX12_89 kt_151 rfl rf_151_52 rfl ?_
                      refine r_iload_n C 149 2 rfl dX12_worth_148 rfl ?_
                      refine r_iald C 150 dX12_worth_149 kt_176 rfl rfl (fun v_14 => ?_)
                      exact r_iret C Rr dX12_worth_150 (fun _ => rfl) rfl
                    · by_cases g_16 : (x1) = (nI 104)
                      · refine r_tsIn C 144 (nI 104) g_16 dX12_worth_1 (by decide) (by decide) rfl (by decide) ?_
                        refine r_aload_n C 145 0 rfl dX12_worth_144 rfl ?_
                        refine r_getR C 148 dX12_worth_145 flX12_89 kt_151 rfl rf_151_52 rfl ?_
                        refine r_iload_n C 149 2 rfl dX12_worth_148 rfl ?_
                        refine r_iald C 150 dX12_worth_149 kt_176 rfl rfl (fun v_14 => ?_)
                        exact r_iret C Rr dX12_worth_150 (fun _ => rfl) rfl
                      · by_cases g_17 : (x1) = (nI 105)
                        · refine r_tsIn C 144 (nI 105) g_17 dX12_worth_1 (by decide) (by decide) rfl (by decide) ?_
                          refine r_aload_n C 145 0 rfl dX12_worth_144 rfl ?_
                          refine r_getR C 148 dX12_worth_145 flX12_89 kt_151 rfl rf_151_52 rfl ?_
                          refine r_iload_n C 149 2 rfl dX12_worth_148 rfl ?_
                          refine r_iald C 150 dX12_worth_149 kt_176 rfl rfl (fun v_14 => ?_)
                          exact r_iret C Rr dX12_worth_150 (fun _ => rfl) rfl
                        · by_cases g_18 : (x1) = (nI 106)
                          · refine r_tsIn C 144 (nI 106) g_18 dX12_worth_1 (by decide) (by decide) rfl (by decide) ?_
                            refine r_aload_n C 145 0 rfl dX12_worth_144 rfl ?_
                            refine r_getR C 148 dX12_worth_145 flX12_89 kt_151 rfl rf_151_52 rfl ?_
                            refine r_iload_n C 149 2 rfl dX12_worth_148 rfl ?_
                            refine r_iald C 150 dX12_worth_149 kt_176 rfl rfl (fun v_14 => ?_)
                            exact r_iret C Rr dX12_worth_150 (fun _ => rfl) rfl
                          · by_cases g_19 : (x1) = (nI 111)
                            · refine r_tsIn C 144 (nI 111) g_19 dX12_worth_1 (by decide) (by decide) rfl (by decide) ?_
                              refine r_aload_n C 145 0 rfl dX12_worth_144 rfl ?_
                              refine r_getR C 148 dX12_worth_145 flX12_89 kt_151 rfl rf_151_52 rfl ?_
                              refine r_iload_n C 149 2 rfl dX12_worth_148 rfl ?_
                              refine r_iald C 150 dX12_worth_149 kt_176 rfl rfl (fun v_14 => ?_)
                              exact r_iret C Rr dX12_worth_150 (fun _ => rfl) rfl
                            · by_cases g_20 : (x1) = (nI 112)
                              · refine r_tsIn C 144 (nI 112) g_20 dX12_worth_1 (by decide) (by decide) rfl (by decide) ?_
                                refine r_aload_n C 145 0 rfl dX12_worth_144 rfl ?_
                                refine r_getR C 148 dX12_worth_145 flX12_89 kt_151 rfl rf_151_52 rfl ?_
                                refine r_iload_n C 149 2 rfl dX12_worth_148 rfl ?_
                                refine r_iald C 150 dX12_worth_149 kt_176 rfl rfl (fun v_14 => ?_)
                                exact r_iret C Rr dX12_worth_150 (fun _ => rfl) rfl
                              · by_cases g_21 : (x1) = (nI 114)
                                · refine r_tsIn C 144 (nI 114) g_21 dX12_worth_1 (by decide) (by decide) rfl (by decide) ?_
                                  refine r_aload_n C 145 0 rfl dX12_worth_144 rfl ?_
                                  refine r_getR C 148 dX12_worth_145 flX12_89 kt_151 rfl rf_151_52 rfl ?_
                                  refine r_iload_n C 149 2 rfl dX12_worth_148 rfl ?_
                                  refine r_iald C 150 dX12_worth_149 kt_176 rfl rfl (fun v_14 => ?_)
                                  exact r_iret C Rr dX12_worth_150 (fun _ => rfl) rfl
                                · by_cases g_22 : (x1) = (nI 116)
                                  · refine r_tsIn C 144 (nI 116) g_22 dX12_worth_1 (by decide) (by decide) rfl (by decide) ?_
                                    refine r_aload_n C 145 0 rfl dX12_worth_144 rfl ?_
                                    refine r_getR C 148 dX12_worth_145 flX12_89 kt_151 rfl rf_151_52 rfl ?_
                                    refine r_iload_n C 149 2 rfl dX12_worth_148 rfl ?_
                                    refine r_iald C 150 dX12_worth_149 kt_176 rfl rfl (fun v_14 => ?_)
                                    exact r_iret C Rr dX12_worth_150 (fun _ => rfl) rfl
                                  · by_cases g_23 : (x1) = (nI 117)
                                    · refine r_tsIn C 144 (nI 117) g_23 dX12_worth_1 (by decide) (by decide) rfl (by decide) ?_
                                      refine r_aload_n C 145 0 rfl dX12_worth_144 rfl ?_
                                      refine r_getR C 148 dX12_worth_145 flX12_89 kt_151 rfl rf_151_52 rfl ?_
                                      refine r_iload_n C 149 2 rfl dX12_worth_148 rfl ?_
                                      refine r_iald C 150 dX12_worth_149 kt_176 rfl rfl (fun v_14 => ?_)
                                      exact r_iret C Rr dX12_worth_150 (fun _ => rfl) rfl
                                    · by_cases g_24 : (x1) = (nI 118)
                                      · refine r_tsIn C 144 (nI 118) g_24 dX12_worth_1 (by decide) (by decide) rfl (by decide) ?_
                                        refine r_aload_n C 145 0 rfl dX12_worth_144 rfl ?_
                                        refine r_getR C 148 dX12_worth_145 flX12_89 kt_151 rfl rf_151_52 rfl ?_
                                        refine r_iload_n C 149 2 rfl dX12_worth_148 rfl ?_
                                        refine r_iald C 150 dX12_worth_149 kt_176 rfl rfl (fun v_14 => ?_)
                                        exact r_iret C Rr dX12_worth_150 (fun _ => rfl) rfl
                                      · by_cases g_25 : (x1) = (nI 119)
                                        · refine r_tsIn C 144 (nI 119) g_25 dX12_worth_1 (by decide) (by decide) rfl (by decide) ?_
                                          refine r_aload_n C 145 0 rfl dX12_worth_144 rfl ?_
                                          refine r_getR C 148 dX12_worth_145 flX12_89 kt_151 rfl rf_151_52 rfl ?_
                                          refine r_iload_n C 149 2 rfl dX12_worth_148 rfl ?_
                                          refine r_iald C 150 dX12_worth_149 kt_176 rfl rfl (fun v_14 => ?_)
                                          exact r_iret C Rr dX12_worth_150 (fun _ => rfl) rfl
                                        · by_cases g_26 : (x1) = (nI 120)
                                          · refine r_tsIn C 144 (nI 120) g_26 dX12_worth_1 (by decide) (by decide) rfl (by decide) ?_
                                            refine r_aload_n C 145 0 rfl dX12_worth_144 rfl ?_
                                            refine r_getR C 148 dX12_worth_145 flX12_89 kt_151 rfl rf_151_52 rfl ?_
                                            refine r_iload_n C 149 2 rfl dX12_worth_148 rfl ?_
                                            refine r_iald C 150 dX12_worth_149 kt_176 rfl rfl (fun v_14 => ?_)
                                            exact r_iret C Rr dX12_worth_150 (fun _ => rfl) rfl
                                          · refine r_tsOut C 144 dX12_worth_1 (ts_out ?_) (by decide) ?_
                                            · intro v h1 h2 e
                                              have hv : v = 101 ∨ v = 102 ∨ v = 103 ∨ v = 104 ∨ v = 105 ∨ v = 106 ∨ v = 107 ∨ v = 108 ∨ v = 109 ∨ v = 110 ∨ v = 111 ∨ v = 112 ∨ v = 113 ∨ v = 114 ∨ v = 115 ∨ v = 116 ∨ v = 117 ∨ v = 118 ∨ v = 119 ∨ v = 120 ∨ v = 121 := by omega
                                              rcases hv with rfl | rfl | rfl | rfl | rfl | rfl | rfl | rfl | rfl | rfl | rfl | rfl | rfl | rfl | rfl | rfl | rfl | rfl | rfl | rfl | rfl
                                              · exact g_1 (e.trans (by decide))
                                              · exact g_3 (e.trans (by decide))
                                              · exact g_15 (e.trans (by decide))
                                              · exact g_16 (e.trans (by decide))
                                              · exact g_17 (e.trans (by decide))
                                              · exact g_18 (e.trans (by decide))
                                              · exact g_4 (e.trans (by decide))
                                              · exact g_5 (e.trans (by decide))
                                              · exact g_6 (e.trans (by decide))
                                              · exact g_8 (e.trans (by decide))
                                              · exact g_19 (e.trans (by decide))
                                              · exact g_20 (e.trans (by decide))
                                              · exact g_9 (e.trans (by decide))
                                              · exact g_21 (e.trans (by decide))
                                              · exact g_11 (e.trans (by decide))
                                              · exact g_22 (e.trans (by decide))
                                              · exact g_23 (e.trans (by decide))
                                              · exact g_24 (e.trans (by decide))
                                              · exact g_25 (e.trans (by decide))
                                              · exact g_26 (e.trans (by decide))
                                              · exact g_13 (e.trans (by decide))
                                            · refine r_aload_n C 145 0 rfl dX12_worth_144 rfl ?_
                                              refine r_getR C 148 dX12_worth_145 flX12_89 kt_151 rfl rf_151_52 rfl ?_
                                              refine r_iload_n C 149 2 rfl dX12_worth_148 rfl ?_
                                              refine r_iald C 150 dX12_worth_149 kt_176 rfl rfl (fun v_14 => ?_)
                                              exact r_iret C Rr dX12_worth_150 (fun _ => rfl) rfl
set_option maxHeartbeats 4000000 in
theorem ok_f_X12_worth (x1 : Int32) (x2 : Int32)  (h : CH) : ∀ q, f_X12_worth x1 x2 h = some q → MG yX12_worth cX12_worth 3 (some .int) [] 3 (fun ad => [.ref (ad 151), .int x1, .int x2]) h ((fun (x : Int32) (_ : Nat → Nat) => some (Value.int x)) q) ((fun (_ : Int32) => h) q) := mg_of RX12 (by decide) rfl (fun _ => Nat.le_of_ble_eq_true rfl) (fun κ C Rr => imp_f_X12_worth C x1 x2 h Rr)
set_option maxHeartbeats 4000000 in
set_option maxRecDepth 100000 in
theorem imp_f_X12_holds_L9 {κ : Kx (Int32 × CH)} (C : Cx κ cX12_holds RX12 5 4 (40 * 4) []) (x1 : Int32)    (Rr : Rt κ (some .boolean) (fun (q : Int32 × CH) (_ : Nat → Nat) => some (Value.int q.1)) (fun (q : (Int32 × CH)) => q.2)) : ∀ (n : Nat) (x2 : Int32) (x3 : Int32) (h : CH), Imp κ 9 [(0, .ref (kad κ 151)), (1, .int (x1)), (2, .int (x2)), (3, .int (x3))] [] h (f_X12_holds_L9 x1 n x2 x3 h) := by
  intro n
  induction n with
  | zero => intros; exact imp_none
  | succ n ih =>
    intro x2 x3 h
    rw [f_X12_holds_L9]
    refine r_iload_n C 10 3 rfl dX12_holds_9 rfl ?_
    refine r_aload_n C 11 0 rfl dX12_holds_10 rfl ?_
    refine r_getR C 14 dX12_holds_11 flX12_83 kt_151 rfl rf_151_34 rfl ?_
    refine r_iload_n C 15 1 rfl dX12_holds_14 rfl ?_
    refine r_iald C 16 dX12_holds_15 kt_174 rfl rfl (fun v_2 => ?_)
    refine r_icmp_ge C 19 129 dX12_holds_16 (by decide) rfl (fun c_3 => ?_) (fun c_3 => ?_)
    · refine r_aload_n C 20 0 rfl dX12_holds_19 rfl ?_
      refine r_getR C 23 dX12_holds_20 flX12_65 kt_151 rfl rf_151_28 rfl ?_
      refine r_iload_n C 24 3 rfl dX12_holds_23 rfl ?_
      refine r_iald C 25 dX12_holds_24 kt_168 rfl rfl (fun v_4 => ?_)
      refine r_istore C 27 [(4, .int (v_4)), (0, .ref (kad κ 151)), (1, .int (x1)), (2, .int (x2)), (3, .int (x3))] dX12_holds_25 (by decide) rfl rfl ?_
      refine r_iload C 29 0 rfl dX12_holds_27 rfl ?_
      refine r_bipush C 31 (nI 126) (by decide) dX12_holds_29 rfl ?_
      refine imp_jn (fun (j_7 : Int32 → CH → Option (Int32 × CH)) => ∀ (x2_5 : Int32) (h_6 : CH), Imp κ 123 [(0, .ref (kad κ 151)), (1, .int (x1)), (2, .int (x2_5)), (3, .int (x3))] [] h_6 (j_7 x2_5 h_6)) ?_ ?_
      · intro x2_5 h_6
        refine r_iinc C 126 3 (nI 1) [(3, .int (x3 + (nI 1))), (0, .ref (kad κ 151)), (1, .int (x1)), (2, .int (x2_5))] dX12_holds_123 rfl (by decide) (by decide) rfl rfl ?_
        refine r_goto C 9 dX12_holds_126 (by decide) ?_
        exact imp_sub [(0, .ref (kad κ 151)), (1, .int (x1)), (2, .int (x2_5)), (3, .int (x3 + (nI 1)))] [1, 2, 3, 0] rfl (ih (x2_5) (x3 + (nI 1)) h_6)
      · intro j_7 hj_7
        refine r_icmp_ne C 34 61 dX12_holds_31 (by decide) rfl (fun c_8 => ?_) (fun c_8 => ?_)
        · refine r_aload_n C 35 1 rfl dX12_holds_34 rfl ?_
          refine r_getR C 38 dX12_holds_35 flX12_77 kt_151 rfl rf_151_32 rfl ?_
          refine r_iload_n C 39 3 rfl dX12_holds_38 rfl ?_
          refine r_iconst C 40 (nI 1) (by decide) dX12_holds_39 rfl ?_
          refine r_isub C 41 dX12_holds_40 rfl ?_
          refine r_aload_n C 42 1 rfl dX12_holds_41 rfl ?_
          refine r_getR C 45 dX12_holds_42 flX12_77 kt_151 rfl rf_151_32 rfl ?_
          refine r_iload_n C 46 3 rfl dX12_holds_45 rfl ?_
          refine r_iconst C 47 (nI 1) (by decide) dX12_holds_46 rfl ?_
          refine r_isub C 48 dX12_holds_47 rfl ?_
          refine r_iald C 49 dX12_holds_48 kt_172 rfl rfl (fun v_9 => ?_)
          refine imp_jn (fun (j_12 : Int32 → Int32 → Option (Int32 × CH)) => ∀ (s_10 : Int32) (s_11 : Int32), Imp κ 57 [(0, .ref (kad κ 151)), (1, .int (x1)), (2, .int (x2)), (3, .int (x3))] [.int (s_10), .int (s_11), .ref (kad κ 172)] h (j_12 s_10 s_11)) ?_ ?_
          · intro s_10 s_11
            refine r_iast C 58 dX12_holds_57 kt_172 rfl rfl (fun h_13 => ?_)
            refine r_goto C 123 dX12_holds_58 (by decide) ?_
            exact imp_sub [(0, .ref (kad κ 151)), (1, .int (x1)), (2, .int (x2)), (3, .int (x3))] [0, 1, 2, 3] rfl (hj_7 (x2) h_13)
          · intro j_12 hj_12
            refine r_if_ne C 52 56 dX12_holds_49 (by decide) rfl (fun c_14 => ?_) (fun c_14 => ?_)
            · refine r_iconst C 53 (nI 1) (by decide) dX12_holds_52 rfl ?_
              refine r_goto C 57 dX12_holds_53 (by decide) ?_
              exact imp_sub [(0, .ref (kad κ 151)), (1, .int (x1)), (2, .int (x2)), (3, .int (x3))] [1, 2, 3, 4] rfl (hj_12 ((nI 1)) ((x2) - ((nI 1))))
            · refine r_iconst C 57 (nI 0) (by decide) dX12_holds_56 rfl ?_
              exact imp_sub [(0, .ref (kad κ 151)), (1, .int (x1)), (2, .int (x2)), (3, .int (x3))] [1, 2, 3, 4] rfl (hj_12 ((nI 0)) ((x2) - ((nI 1))))
        · refine r_iload C 63 0 rfl dX12_holds_61 rfl ?_
          refine r_cSpI C 66 [] (ok_f_X12_isLetter v_4 h) dX12_holds_63 lsX12_214 rfl (by decide) (Nat.le_of_ble_eq_true rfl) rfl rfl (Nat.le_of_ble_eq_true rfl) rfl rfl (fun v_15 => ?_)
          refine r_if_eq C 69 93 dX12_holds_66 (by decide) rfl (fun c_16 => ?_) (fun c_16 => ?_)
          · refine r_iinc C 96 3 (-1) [(2, .int (x2 + (-1))), (4, .int (v_4)), (0, .ref (kad κ 151)), (1, .int (x1)), (3, .int (x3))] dX12_holds_93 rfl (by decide) (by decide) rfl rfl ?_
            refine r_aload_n C 97 2 rfl dX12_holds_96 rfl ?_
            refine r_getR C 100 dX12_holds_97 flX12_77 kt_151 rfl rf_151_32 rfl ?_
            refine r_iload_n C 101 0 rfl dX12_holds_100 rfl ?_
            refine r_iconst C 102 (nI 1) (by decide) dX12_holds_101 rfl ?_
            refine r_isub C 103 dX12_holds_102 rfl ?_
            refine r_iload C 105 1 rfl dX12_holds_103 rfl ?_
            refine r_aload_n C 106 2 rfl dX12_holds_105 rfl ?_
            refine r_getR C 109 dX12_holds_106 flX12_77 kt_151 rfl rf_151_32 rfl ?_
            refine r_iload_n C 110 0 rfl dX12_holds_109 rfl ?_
            refine r_iconst C 111 (nI 1) (by decide) dX12_holds_110 rfl ?_
            refine r_isub C 112 dX12_holds_111 rfl ?_
            refine r_iald C 113 dX12_holds_112 kt_172 rfl rfl (fun v_17 => ?_)
            refine r_aload_n C 114 2 rfl dX12_holds_113 rfl ?_
            refine r_getR C 117 dX12_holds_114 flX12_77 kt_151 rfl rf_151_32 rfl ?_
            refine r_iload_n C 118 0 rfl dX12_holds_117 rfl ?_
            refine r_iald C 119 dX12_holds_118 kt_172 rfl rfl (fun v_18 => ?_)
            refine r_cSpI C 122 [.int ((x2 + (-1)) - ((nI 1))), .ref (kad κ 172)] (ok_f_X12_two v_4 v_17 v_18 h) dX12_holds_119 lsX12_395 rfl (by decide) (Nat.le_of_ble_eq_true rfl) rfl rfl (Nat.le_of_ble_eq_true rfl) rfl rfl (fun v_19 => ?_)
            refine r_iast C 123 dX12_holds_122 kt_172 rfl rfl (fun h_20 => ?_)
            exact imp_sub [(0, .ref (kad κ 151)), (1, .int (x1)), (2, .int (x2 + (-1))), (3, .int (x3))] [2, 3, 0, 4] rfl (hj_7 (x2 + (-1)) h_20)
          · refine r_aload_n C 70 1 rfl dX12_holds_69 rfl ?_
            refine r_getR C 73 dX12_holds_70 flX12_77 kt_151 rfl rf_151_32 rfl ?_
            refine r_iload_n C 74 3 rfl dX12_holds_73 rfl ?_
            refine r_aload_n C 75 1 rfl dX12_holds_74 rfl ?_
            refine r_iload C 77 0 rfl dX12_holds_75 rfl ?_
            refine r_aload_n C 78 1 rfl dX12_holds_77 rfl ?_
            refine r_getR C 81 dX12_holds_78 flX12_68 kt_151 rfl rf_151_29 rfl ?_
            refine r_iload_n C 82 4 rfl dX12_holds_81 rfl ?_
            refine r_iald C 83 dX12_holds_82 kt_169 rfl rfl (fun v_21 => ?_)
            refine r_cVpI C 86 [.int (x2), .ref (kad κ 172)] (ok_f_X12_worth v_4 v_21 h) dX12_holds_83 lvX12_392 kt_151 rfl rfl rfl (by decide) (Nat.le_of_ble_eq_true rfl) rfl rfl (Nat.le_of_ble_eq_true rfl) rfl rfl (fun v_22 => ?_)
            refine r_iast C 87 dX12_holds_86 kt_172 rfl rfl (fun h_23 => ?_)
            refine r_iinc C 90 3 (nI 1) [(2, .int (x2 + (nI 1))), (4, .int (v_4)), (0, .ref (kad κ 151)), (1, .int (x1)), (3, .int (x3))] dX12_holds_87 rfl (by decide) (by decide) rfl rfl ?_
            refine r_goto C 123 dX12_holds_90 (by decide) ?_
            exact imp_sub [(0, .ref (kad κ 151)), (1, .int (x1)), (2, .int (x2 + (nI 1))), (3, .int (x3))] [2, 3, 0, 4] rfl (hj_7 (x2 + (nI 1)) h_23)
    · refine r_aload_n C 130 0 rfl dX12_holds_129 rfl ?_
      refine r_getR C 133 dX12_holds_130 flX12_77 kt_151 rfl rf_151_32 rfl ?_
      refine r_iconst C 134 (nI 0) (by decide) dX12_holds_133 rfl ?_
      refine r_iald C 135 dX12_holds_134 kt_172 rfl rfl (fun v_24 => ?_)
      refine r_if_eq C 138 142 dX12_holds_135 (by decide) rfl (fun c_25 => ?_) (fun c_25 => ?_)
      · refine r_iconst C 143 (nI 0) (by decide) dX12_holds_142 rfl ?_
        exact r_zret C Rr (by decide) dX12_holds_143 (fun _ => rfl) rfl
      · refine r_iconst C 139 (nI 1) (by decide) dX12_holds_138 rfl ?_
        refine r_goto C 143 dX12_holds_139 (by decide) ?_
        exact r_zret C Rr (by decide) dX12_holds_143 (fun _ => rfl) rfl
set_option maxHeartbeats 4000000 in
set_option maxRecDepth 100000 in
theorem imp_f_X12_holds {κ : Kx (Int32 × CH)} (C : Cx κ cX12_holds RX12 5 4 (40 * 4) []) (x1 : Int32)  (h : CH) (Rr : Rt κ (some .boolean) (fun (q : Int32 × CH) (_ : Nat → Nat) => some (Value.int q.1)) (fun (q : (Int32 × CH)) => q.2)) : Imp κ 0 [(0, .ref (kad κ 151)), (1, .int (x1))] [] h (f_X12_holds x1 h) := by
  unfold f_X12_holds
  refine r_iconst C 1 (nI 0) (by decide) dX12_holds_0 rfl ?_
  refine r_istore_n C 2 2 [(2, .int ((nI 0))), (0, .ref (kad κ 151)), (1, .int (x1))] dX12_holds_1 rfl (by decide) rfl rfl ?_
  refine r_aload_n C 3 1 rfl dX12_holds_2 rfl ?_
  refine r_getR C 6 dX12_holds_3 flX12_80 kt_151 rfl rf_151_33 rfl ?_
  refine r_iload_n C 7 2 rfl dX12_holds_6 rfl ?_
  refine r_iald C 8 dX12_holds_7 kt_173 rfl rfl (fun v_1 => ?_)
  refine r_istore_n C 9 3 [(3, .int (v_1)), (2, .int ((nI 0))), (0, .ref (kad κ 151)), (1, .int (x1))] dX12_holds_8 rfl (by decide) rfl rfl ?_
  refine imp_sub [(0, .ref (kad κ 151)), (1, .int (x1)), (2, .int ((nI 0))), (3, .int (v_1))] [2, 3, 1, 0] rfl ?_
  refine imp_f_X12_holds_L9 C (x1) Rr FU ((nI 0)) (v_1) h
set_option maxHeartbeats 4000000 in
theorem ok_f_X12_holds (x1 : Int32)  (h : CH) : ∀ q, f_X12_holds x1 h = some q → MG yX12_holds cX12_holds 5 (some .boolean) [] 4 (fun ad => [.ref (ad 151), .int x1]) h ((fun (q : Int32 × CH) (_ : Nat → Nat) => some (Value.int q.1)) q) ((fun (q : (Int32 × CH)) => q.2) q) := mg_of RX12 (by decide) rfl (fun _ => Nat.le_of_ble_eq_true rfl) (fun κ C Rr => imp_f_X12_holds C x1 h Rr)
set_option maxHeartbeats 4000000 in
set_option maxRecDepth 100000 in
theorem imp_f_X12_isPass {κ : Kx (Int32 × CH)} (C : Cx κ cX12_isPass RX12 4 5 (40 * 5) []) (x1 : Int32) (x2 : Int32) (x3 : Int32)  (h : CH) (Rr : Rt κ (some .boolean) (fun (q : Int32 × CH) (_ : Nat → Nat) => some (Value.int q.1)) (fun (q : (Int32 × CH)) => q.2)) : Imp κ 0 [(0, .ref (kad κ 151)), (1, .int (x1)), (2, .int (x2)), (3, .int (x3))] [] h (f_X12_isPass x1 x2 x3 h) := by
  unfold f_X12_isPass
  refine r_aload_n C 1 0 rfl dX12_isPass_0 rfl ?_
  refine r_aload_n C 2 0 rfl dX12_isPass_1 rfl ?_
  refine r_iload_n C 3 1 rfl dX12_isPass_2 rfl ?_
  refine r_iload_n C 4 2 rfl dX12_isPass_3 rfl ?_
  refine r_iload_n C 5 3 rfl dX12_isPass_4 rfl ?_
  refine r_cVpI C 8 [.ref (kad κ 151)] (ok_f_X12_farLive x1 x2 x3 h) dX12_isPass_5 lvX12_418 kt_151 rfl rfl rfl (by decide) (Nat.le_of_ble_eq_true rfl) rfl rfl (Nat.le_of_ble_eq_true rfl) rfl rfl (fun v_1 => ?_)
  refine r_putI C 11 dX12_isPass_8 flX12_370 kt_151 rfl rfl (fun h_2 => ?_)
  refine r_aload_n C 12 0 rfl dX12_isPass_11 rfl ?_
  refine r_aload_n C 13 0 rfl dX12_isPass_12 rfl ?_
  refine r_getR C 16 dX12_isPass_13 flX12_33 kt_151 rfl rf_151_16 rfl ?_
  refine r_bipush C 18 (nI 16) (by decide) dX12_isPass_16 rfl ?_
  refine r_aload_n C 19 0 rfl dX12_isPass_18 rfl ?_
  refine r_getI C 22 dX12_isPass_19 flX12_269 kt_151 rfl rfl ?_
  refine r_imul C 23 dX12_isPass_22 rfl ?_
  refine r_iload_n C 24 1 rfl dX12_isPass_23 rfl ?_
  refine r_iadd C 25 dX12_isPass_24 rfl ?_
  refine r_iald C 26 dX12_isPass_25 kt_158 rfl rfl (fun v_3 => ?_)
  refine r_putI C 29 dX12_isPass_26 flX12_373 kt_151 rfl rfl (fun h_4 => ?_)
  refine r_aload_n C 30 0 rfl dX12_isPass_29 rfl ?_
  refine r_iload_n C 31 2 rfl dX12_isPass_30 rfl ?_
  refine r_putI C 34 dX12_isPass_31 flX12_376 kt_151 rfl rfl (fun h_5 => ?_)
  refine r_aload_n C 35 0 rfl dX12_isPass_34 rfl ?_
  refine r_iload_n C 36 3 rfl dX12_isPass_35 rfl ?_
  refine r_putI C 39 dX12_isPass_36 flX12_379 kt_151 rfl rfl (fun h_6 => ?_)
  refine r_aload_n C 40 0 rfl dX12_isPass_39 rfl ?_
  refine r_getI C 43 dX12_isPass_40 flX12_287 kt_151 rfl rfl ?_
  refine r_if_eq C 46 54 dX12_isPass_43 (by decide) rfl (fun c_7 => ?_) (fun c_7 => ?_)
  · refine r_aload_n C 55 0 rfl dX12_isPass_54 rfl ?_
    refine r_getI C 58 dX12_isPass_55 flX12_370 kt_151 rfl rfl ?_
    refine r_bipush C 60 (nI 40) (by decide) dX12_isPass_58 rfl ?_
    refine r_icmp_ge C 63 67 dX12_isPass_60 (by decide) rfl (fun c_8 => ?_) (fun c_8 => ?_)
    · refine r_iconst C 64 (nI 1) (by decide) dX12_isPass_63 rfl ?_
      refine r_goto C 68 dX12_isPass_64 (by decide) ?_
      exact r_zret C Rr (by decide) dX12_isPass_68 (fun _ => rfl) rfl
    · refine r_iconst C 68 (nI 0) (by decide) dX12_isPass_67 rfl ?_
      exact r_zret C Rr (by decide) dX12_isPass_68 (fun _ => rfl) rfl
  · refine r_aload_n C 47 0 rfl dX12_isPass_46 rfl ?_
    refine r_iconst C 48 (nI 0) (by decide) dX12_isPass_47 rfl ?_
    refine r_cViI C 51 [] (ok_f_X12_holds ((nI 0)) h_6) dX12_isPass_48 lvX12_421 kt_151 rfl rfl rfl (by decide) (Nat.le_of_ble_eq_true rfl) rfl rfl (Nat.le_of_ble_eq_true rfl) rfl rfl (fun v_9 h_10 => ?_)
    refine r_goto C 68 dX12_isPass_51 (by decide) ?_
    exact r_zretg C Rr dX12_isPass_68 (fun _ => rfl) rfl
set_option maxHeartbeats 4000000 in
theorem ok_f_X12_isPass (x1 : Int32) (x2 : Int32) (x3 : Int32)  (h : CH) : ∀ q, f_X12_isPass x1 x2 x3 h = some q → MG yX12_isPass cX12_isPass 4 (some .boolean) [] 5 (fun ad => [.ref (ad 151), .int x1, .int x2, .int x3]) h ((fun (q : Int32 × CH) (_ : Nat → Nat) => some (Value.int q.1)) q) ((fun (q : (Int32 × CH)) => q.2) q) := mg_of RX12 (by decide) rfl (fun _ => Nat.le_of_ble_eq_true rfl) (fun κ C Rr => imp_f_X12_isPass C x1 x2 x3 h Rr)
set_option maxHeartbeats 4000000 in
set_option maxRecDepth 100000 in
theorem imp_f_X12_isPassOf {κ : Kx (Int32 × CH)} (C : Cx κ cX12_isPassOf RX12 5 6 (40 * 6) []) (x1 : Int32) (x2 : Int32) (x3 : Int32) (x4 : Int32)  (h : CH) (Rr : Rt κ (some .boolean) (fun (q : Int32 × CH) (_ : Nat → Nat) => some (Value.int q.1)) (fun (q : (Int32 × CH)) => q.2)) : Imp κ 0 [(0, .ref (kad κ 151)), (1, .int (x1)), (2, .int (x2)), (3, .int (x3)), (4, .int (x4))] [] h (f_X12_isPassOf x1 x2 x3 x4 h) := by
  unfold f_X12_isPassOf
  refine r_aload_n C 1 0 rfl dX12_isPassOf_0 rfl ?_
  refine r_iload_n C 2 2 rfl dX12_isPassOf_1 rfl ?_
  refine r_iload_n C 3 2 rfl dX12_isPassOf_2 rfl ?_
  refine r_bipush C 5 (nI 10) (by decide) dX12_isPassOf_3 rfl ?_
  refine r_iconst C 6 (-1) (by decide) dX12_isPassOf_5 rfl ?_
  refine r_cViV C 9 [] (ok_f_X12_layMix x2 x2 ((nI 10)) ((-1)) h) dX12_isPassOf_6 lvX12_427 kt_151 rfl rfl rfl (by decide) (Nat.le_of_ble_eq_true rfl) rfl rfl (Nat.le_of_ble_eq_true rfl) rfl rfl (fun _ h_1 => ?_)
  refine r_aload_n C 10 0 rfl dX12_isPassOf_9 rfl ?_
  refine r_iload_n C 11 1 rfl dX12_isPassOf_10 rfl ?_
  refine r_iload_n C 12 3 rfl dX12_isPassOf_11 rfl ?_
  refine r_iload C 14 4 rfl dX12_isPassOf_12 rfl ?_
  refine r_cViI C 17 [] (ok_f_X12_isPass x1 x3 x4 h_1) dX12_isPassOf_14 lvX12_431 kt_151 rfl rfl rfl (by decide) (Nat.le_of_ble_eq_true rfl) rfl rfl (Nat.le_of_ble_eq_true rfl) rfl rfl (fun v_2 h_3 => ?_)
  exact r_zretg C Rr dX12_isPassOf_17 (fun _ => rfl) rfl
set_option maxHeartbeats 4000000 in
theorem ok_f_X12_isPassOf (x1 : Int32) (x2 : Int32) (x3 : Int32) (x4 : Int32)  (h : CH) : ∀ q, f_X12_isPassOf x1 x2 x3 x4 h = some q → MG yX12_isPassOf cX12_isPassOf 5 (some .boolean) [] 6 (fun ad => [.ref (ad 151), .int x1, .int x2, .int x3, .int x4]) h ((fun (q : Int32 × CH) (_ : Nat → Nat) => some (Value.int q.1)) q) ((fun (q : (Int32 × CH)) => q.2) q) := mg_of RX12 (by decide) rfl (fun _ => Nat.le_of_ble_eq_true rfl) (fun κ C Rr => imp_f_X12_isPassOf C x1 x2 x3 x4 h Rr)
set_option maxHeartbeats 4000000 in
set_option maxRecDepth 100000 in
theorem imp_f_X12_passes {κ : Kx (Int32 × CH)} (C : Cx κ cX12_passes RX12 5 7 (40 * 7) []) (x1 : Int32) (x2 : Int32) (x3 : Int32) (x4 : Int32)  (h : CH) (Rr : Rt κ (some .int) (fun (q : Int32 × CH) (_ : Nat → Nat) => some (Value.int q.1)) (fun (q : (Int32 × CH)) => q.2)) : Imp κ 0 [(0, .ref (kad κ 151)), (1, .int (x1)), (2, .int (x2)), (3, .int (x3)), (4, .int (x4))] [] h (f_X12_passes x1 x2 x3 x4 h) := by
  unfold f_X12_passes
  refine r_aload_n C 1 0 rfl dX12_passes_0 rfl ?_
  refine r_iload_n C 2 1 rfl dX12_passes_1 rfl ?_
  refine r_cVpI C 5 [] (ok_f_X12_isFace x1 h) dX12_passes_2 lvX12_424 kt_151 rfl rfl rfl (by decide) (Nat.le_of_ble_eq_true rfl) rfl rfl (Nat.le_of_ble_eq_true rfl) rfl rfl (fun v_1 => ?_)
  refine imp_jn (fun (j_2 : Option (Int32 × CH)) =>  Imp κ 25 [] [] h (j_2)) ?_ ?_
  · refine r_iconst C 26 (-1) (by decide) dX12_passes_25 rfl ?_
    refine r_goto C 46 dX12_passes_26 (by decide) ?_
    exact r_iret C Rr dX12_passes_46 (fun _ => rfl) rfl
  · intro j_2 hj_2
    refine r_if_eq C 8 25 dX12_passes_5 (by decide) rfl (fun c_3 => ?_) (fun c_3 => ?_)
    · exact imp_sub [] [] rfl (hj_2)
    · refine r_aload_n C 9 0 rfl dX12_passes_8 rfl ?_
      refine r_iload_n C 10 2 rfl dX12_passes_9 rfl ?_
      refine r_cVpI C 13 [] (ok_f_X12_isFace x2 h) dX12_passes_10 lvX12_424 kt_151 rfl rfl rfl (by decide) (Nat.le_of_ble_eq_true rfl) rfl rfl (Nat.le_of_ble_eq_true rfl) rfl rfl (fun v_4 => ?_)
      refine r_if_eq C 16 25 dX12_passes_13 (by decide) rfl (fun c_5 => ?_) (fun c_5 => ?_)
      · exact imp_sub [] [] rfl (hj_2)
      · refine r_iload_n C 17 3 rfl dX12_passes_16 rfl ?_
        refine r_iload C 19 4 rfl dX12_passes_17 rfl ?_
        refine r_cSpI C 22 [] (ok_f_X12_isWhen x3 x4 h) dX12_passes_19 lsX12_434 rfl (by decide) (Nat.le_of_ble_eq_true rfl) rfl rfl (Nat.le_of_ble_eq_true rfl) rfl rfl (fun v_6 => ?_)
        refine r_if_ne C 25 29 dX12_passes_22 (by decide) rfl (fun c_7 => ?_) (fun c_7 => ?_)
        · exact imp_sub [] [] rfl (hj_2)
        · refine r_aload_n C 30 0 rfl dX12_passes_29 rfl ?_
          refine r_iload_n C 31 1 rfl dX12_passes_30 rfl ?_
          refine r_iload_n C 32 2 rfl dX12_passes_31 rfl ?_
          refine r_iload_n C 33 3 rfl dX12_passes_32 rfl ?_
          refine r_iload C 35 4 rfl dX12_passes_33 rfl ?_
          refine r_cViI C 38 [] (ok_f_X12_isPassOf x1 x2 x3 x4 h) dX12_passes_35 lvX12_438 kt_151 rfl rfl rfl (by decide) (Nat.le_of_ble_eq_true rfl) rfl rfl (Nat.le_of_ble_eq_true rfl) rfl rfl (fun v_8 h_9 => ?_)
          refine r_if_eq C 41 45 dX12_passes_38 (by decide) rfl (fun c_10 => ?_) (fun c_10 => ?_)
          · refine r_iconst C 46 (nI 0) (by decide) dX12_passes_45 rfl ?_
            exact r_iret C Rr dX12_passes_46 (fun _ => rfl) rfl
          · refine r_iconst C 42 (nI 1) (by decide) dX12_passes_41 rfl ?_
            refine r_goto C 46 dX12_passes_42 (by decide) ?_
            exact r_iret C Rr dX12_passes_46 (fun _ => rfl) rfl
set_option maxHeartbeats 4000000 in
theorem ok_f_X12_passes (x1 : Int32) (x2 : Int32) (x3 : Int32) (x4 : Int32)  (h : CH) : ∀ q, f_X12_passes x1 x2 x3 x4 h = some q → MG yX12_passes cX12_passes 5 (some .int) [] 7 (fun ad => [.ref (ad 151), .int x1, .int x2, .int x3, .int x4]) h ((fun (q : Int32 × CH) (_ : Nat → Nat) => some (Value.int q.1)) q) ((fun (q : (Int32 × CH)) => q.2) q) := mg_of RX12 (by decide) rfl (fun _ => Nat.le_of_ble_eq_true rfl) (fun κ C Rr => imp_f_X12_passes C x1 x2 x3 x4 h Rr)
set_option maxHeartbeats 4000000 in
set_option maxRecDepth 100000 in
theorem imp_f_X12_isMix {κ : Kx Int32} (C : Cx κ cX12_isMix RX12 4 3 (40 * 3) []) (x1 : Int32) (x2 : Int32) (x3 : Int32)  (h : CH) (Rr : Rt κ (some .boolean) (fun (x : Int32) (_ : Nat → Nat) => some (Value.int x)) (fun (_ : Int32) => h)) : Imp κ 0 [(0, .ref (kad κ 151)), (1, .int (x1)), (2, .int (x2)), (3, .int (x3))] [] h (f_X12_isMix x1 x2 x3 h) := by
  unfold f_X12_isMix
  refine r_aload_n C 1 0 rfl dX12_isMix_0 rfl ?_
  refine r_iload_n C 2 1 rfl dX12_isMix_1 rfl ?_
  refine r_cVpI C 5 [] (ok_f_X12_isFace x1 h) dX12_isMix_2 lvX12_424 kt_151 rfl rfl rfl (by decide) (Nat.le_of_ble_eq_true rfl) rfl rfl (Nat.le_of_ble_eq_true rfl) rfl rfl (fun v_1 => ?_)
  refine r_if_eq C 8 35 dX12_isMix_5 (by decide) rfl (fun c_2 => ?_) (fun c_2 => ?_)
  · refine r_iconst C 36 (nI 0) (by decide) dX12_isMix_35 rfl ?_
    exact r_zret C Rr (by decide) dX12_isMix_36 (fun _ => rfl) rfl
  · refine r_aload_n C 9 0 rfl dX12_isMix_8 rfl ?_
    refine r_iload_n C 10 2 rfl dX12_isMix_9 rfl ?_
    refine r_cVpI C 13 [] (ok_f_X12_isFace x2 h) dX12_isMix_10 lvX12_424 kt_151 rfl rfl rfl (by decide) (Nat.le_of_ble_eq_true rfl) rfl rfl (Nat.le_of_ble_eq_true rfl) rfl rfl (fun v_3 => ?_)
    refine r_if_eq C 16 35 dX12_isMix_13 (by decide) rfl (fun c_4 => ?_) (fun c_4 => ?_)
    · refine r_iconst C 36 (nI 0) (by decide) dX12_isMix_35 rfl ?_
      exact r_zret C Rr (by decide) dX12_isMix_36 (fun _ => rfl) rfl
    · refine r_iload_n C 17 1 rfl dX12_isMix_16 rfl ?_
      refine r_iload_n C 18 2 rfl dX12_isMix_17 rfl ?_
      refine r_icmp_eq C 21 35 dX12_isMix_18 (by decide) rfl (fun c_5 => ?_) (fun c_5 => ?_)
      · refine r_iconst C 36 (nI 0) (by decide) dX12_isMix_35 rfl ?_
        exact r_zret C Rr (by decide) dX12_isMix_36 (fun _ => rfl) rfl
      · refine r_iload_n C 22 3 rfl dX12_isMix_21 rfl ?_
        refine r_iconst C 23 (nI 0) (by decide) dX12_isMix_22 rfl ?_
        refine r_bipush C 25 (nI 10) (by decide) dX12_isMix_23 rfl ?_
        refine r_cSpI C 28 [] (ok_f_X12_isIn x3 ((nI 0)) ((nI 10)) h) dX12_isMix_25 lsX12_402 rfl (by decide) (Nat.le_of_ble_eq_true rfl) rfl rfl (Nat.le_of_ble_eq_true rfl) rfl rfl (fun v_6 => ?_)
        refine r_if_eq C 31 35 dX12_isMix_28 (by decide) rfl (fun c_7 => ?_) (fun c_7 => ?_)
        · refine r_iconst C 36 (nI 0) (by decide) dX12_isMix_35 rfl ?_
          exact r_zret C Rr (by decide) dX12_isMix_36 (fun _ => rfl) rfl
        · refine r_iconst C 32 (nI 1) (by decide) dX12_isMix_31 rfl ?_
          refine r_goto C 36 dX12_isMix_32 (by decide) ?_
          exact r_zret C Rr (by decide) dX12_isMix_36 (fun _ => rfl) rfl
set_option maxHeartbeats 4000000 in
theorem ok_f_X12_isMix (x1 : Int32) (x2 : Int32) (x3 : Int32)  (h : CH) : ∀ q, f_X12_isMix x1 x2 x3 h = some q → MG yX12_isMix cX12_isMix 4 (some .boolean) [] 3 (fun ad => [.ref (ad 151), .int x1, .int x2, .int x3]) h ((fun (x : Int32) (_ : Nat → Nat) => some (Value.int x)) q) ((fun (_ : Int32) => h) q) := mg_of RX12 (by decide) rfl (fun _ => Nat.le_of_ble_eq_true rfl) (fun κ C Rr => imp_f_X12_isMix C x1 x2 x3 h Rr)
set_option maxHeartbeats 4000000 in
set_option maxRecDepth 100000 in
theorem imp_f_X12_isPrinterNo {κ : Kx Int32} (C : Cx κ cX12_isPrinterNo RX12 1 2 (40 * 2) []) (x0 : Int32)  (h : CH) (Rr : Rt κ (some .boolean) (fun (x : Int32) (_ : Nat → Nat) => some (Value.int x)) (fun (_ : Int32) => h)) : Imp κ 0 [(0, .int (x0))] [] h (f_X12_isPrinterNo x0 h) := by
  unfold f_X12_isPrinterNo
  refine r_iload_n C 1 0 rfl dX12_isPrinterNo_0 rfl ?_
  refine r_iconst C 2 (-1) (by decide) dX12_isPrinterNo_1 rfl ?_
  refine r_iconst C 3 (nI 3) (by decide) dX12_isPrinterNo_2 rfl ?_
  refine r_cSpI C 6 [] (ok_f_X12_isIn x0 ((-1)) ((nI 3)) h) dX12_isPrinterNo_3 lsX12_402 rfl (by decide) (Nat.le_of_ble_eq_true rfl) rfl rfl (Nat.le_of_ble_eq_true rfl) rfl rfl (fun v_1 => ?_)
  exact r_zretg C Rr dX12_isPrinterNo_6 (fun _ => rfl) rfl
set_option maxHeartbeats 4000000 in
theorem ok_f_X12_isPrinterNo (x0 : Int32)  (h : CH) : ∀ q, f_X12_isPrinterNo x0 h = some q → MG yX12_isPrinterNo cX12_isPrinterNo 1 (some .boolean) [] 2 (fun ad => [.int x0]) h ((fun (x : Int32) (_ : Nat → Nat) => some (Value.int x)) q) ((fun (_ : Int32) => h) q) := mg_of RX12 (by decide) rfl (fun _ => Nat.le_of_ble_eq_true rfl) (fun κ C Rr => imp_f_X12_isPrinterNo C x0 h Rr)
set_option maxHeartbeats 4000000 in
set_option maxRecDepth 100000 in
theorem imp_f_X12_mix {κ : Kx (Int32 × CH)} (C : Cx κ cX12_mix RX12 6 4 (40 * 4) []) (x1 : Int32) (x2 : Int32) (x3 : Int32) (x4 : Int32) (x5 : Int32)  (h : CH) (Rr : Rt κ (some .int) (fun (q : Int32 × CH) (_ : Nat → Nat) => some (Value.int q.1)) (fun (q : (Int32 × CH)) => q.2)) : Imp κ 0 [(0, .ref (kad κ 151)), (1, .int (x1)), (2, .int (x2)), (3, .int (x3)), (4, .int (x4)), (5, .int (x5))] [] h (f_X12_mix x1 x2 x3 x4 x5 h) := by
  unfold f_X12_mix
  refine r_aload_n C 1 0 rfl dX12_mix_0 rfl ?_
  refine r_iload_n C 2 1 rfl dX12_mix_1 rfl ?_
  refine r_iload_n C 3 2 rfl dX12_mix_2 rfl ?_
  refine r_iload_n C 4 3 rfl dX12_mix_3 rfl ?_
  refine r_cVpI C 7 [] (ok_f_X12_isMix x1 x2 x3 h) dX12_mix_4 lvX12_442 kt_151 rfl rfl rfl (by decide) (Nat.le_of_ble_eq_true rfl) rfl rfl (Nat.le_of_ble_eq_true rfl) rfl rfl (fun v_1 => ?_)
  refine r_if_eq C 10 33 dX12_mix_7 (by decide) rfl (fun c_2 => ?_) (fun c_2 => ?_)
  · refine r_iconst C 34 (-1) (by decide) dX12_mix_33 rfl ?_
    exact r_iret C Rr dX12_mix_34 (fun _ => rfl) rfl
  · refine r_iload C 12 4 rfl dX12_mix_10 rfl ?_
    refine r_cSpI C 15 [] (ok_f_X12_isPrinterNo x4 h) dX12_mix_12 lsX12_445 rfl (by decide) (Nat.le_of_ble_eq_true rfl) rfl rfl (Nat.le_of_ble_eq_true rfl) rfl rfl (fun v_3 => ?_)
    refine r_if_eq C 18 33 dX12_mix_15 (by decide) rfl (fun c_4 => ?_) (fun c_4 => ?_)
    · refine r_iconst C 34 (-1) (by decide) dX12_mix_33 rfl ?_
      exact r_iret C Rr dX12_mix_34 (fun _ => rfl) rfl
    · refine r_iload C 20 5 rfl dX12_mix_18 rfl ?_
      refine r_iconst C 21 (nI 0) (by decide) dX12_mix_20 rfl ?_
      refine r_aload_n C 22 0 rfl dX12_mix_21 rfl ?_
      refine r_cVpI C 25 [.int ((nI 0)), .int (x5)] (ok_f_X12_pointMany h) dX12_mix_22 lvX12_406 kt_151 rfl rfl rfl (by decide) (Nat.le_of_ble_eq_true rfl) rfl rfl (Nat.le_of_ble_eq_true rfl) rfl rfl (fun v_5 => ?_)
      refine r_iconst C 26 (nI 1) (by decide) dX12_mix_25 rfl ?_
      refine r_isub C 27 dX12_mix_26 rfl ?_
      refine r_cSpI C 30 [] (ok_f_X12_isIn x5 ((nI 0)) ((v_5) - ((nI 1))) h) dX12_mix_27 lsX12_402 rfl (by decide) (Nat.le_of_ble_eq_true rfl) rfl rfl (Nat.le_of_ble_eq_true rfl) rfl rfl (fun v_6 => ?_)
      refine r_if_ne C 33 35 dX12_mix_30 (by decide) rfl (fun c_7 => ?_) (fun c_7 => ?_)
      · refine r_iconst C 34 (-1) (by decide) dX12_mix_33 rfl ?_
        exact r_iret C Rr dX12_mix_34 (fun _ => rfl) rfl
      · refine r_aload_n C 36 0 rfl dX12_mix_35 rfl ?_
        refine r_iload_n C 37 1 rfl dX12_mix_36 rfl ?_
        refine r_iload_n C 38 2 rfl dX12_mix_37 rfl ?_
        refine r_iload_n C 39 3 rfl dX12_mix_38 rfl ?_
        refine r_iload C 41 4 rfl dX12_mix_39 rfl ?_
        refine r_cViV C 44 [] (ok_f_X12_layMix x1 x2 x3 x4 h) dX12_mix_41 lvX12_427 kt_151 rfl rfl rfl (by decide) (Nat.le_of_ble_eq_true rfl) rfl rfl (Nat.le_of_ble_eq_true rfl) rfl rfl (fun _ h_8 => ?_)
        refine r_aload_n C 45 0 rfl dX12_mix_44 rfl ?_
        refine r_getR C 48 dX12_mix_45 flX12_89 kt_151 rfl rf_151_52 rfl ?_
        refine r_iload C 50 5 rfl dX12_mix_48 rfl ?_
        refine r_iald C 51 dX12_mix_50 kt_176 rfl rfl (fun v_9 => ?_)
        exact r_iret C Rr dX12_mix_51 (fun _ => rfl) rfl
set_option maxHeartbeats 4000000 in
theorem ok_f_X12_mix (x1 : Int32) (x2 : Int32) (x3 : Int32) (x4 : Int32) (x5 : Int32)  (h : CH) : ∀ q, f_X12_mix x1 x2 x3 x4 x5 h = some q → MG yX12_mix cX12_mix 6 (some .int) [] 4 (fun ad => [.ref (ad 151), .int x1, .int x2, .int x3, .int x4, .int x5]) h ((fun (q : Int32 × CH) (_ : Nat → Nat) => some (Value.int q.1)) q) ((fun (q : (Int32 × CH)) => q.2) q) := mg_of RX12 (by decide) rfl (fun _ => Nat.le_of_ble_eq_true rfl) (fun κ C Rr => imp_f_X12_mix C x1 x2 x3 x4 x5 h Rr)
set_option maxHeartbeats 4000000 in
set_option maxRecDepth 100000 in
theorem imp_f_X12_both {κ : Kx (Int32 × CH)} (C : Cx κ cX12_both RX12 6 6 (40 * 6) []) (x1 : Int32) (x2 : Int32) (x3 : Int32) (x4 : Int32) (x5 : Int32)  (h : CH) (Rr : Rt κ (some .int) (fun (q : Int32 × CH) (_ : Nat → Nat) => some (Value.int q.1)) (fun (q : (Int32 × CH)) => q.2)) : Imp κ 0 [(0, .ref (kad κ 151)), (1, .int (x1)), (2, .int (x2)), (3, .int (x3)), (4, .int (x4)), (5, .int (x5))] [] h (f_X12_both x1 x2 x3 x4 x5 h) := by
  unfold f_X12_both
  refine r_aload_n C 1 0 rfl dX12_both_0 rfl ?_
  refine r_iload_n C 2 1 rfl dX12_both_1 rfl ?_
  refine r_iload_n C 3 2 rfl dX12_both_2 rfl ?_
  refine r_iload_n C 4 3 rfl dX12_both_3 rfl ?_
  refine r_cVpI C 7 [] (ok_f_X12_isMix x1 x2 x3 h) dX12_both_4 lvX12_442 kt_151 rfl rfl rfl (by decide) (Nat.le_of_ble_eq_true rfl) rfl rfl (Nat.le_of_ble_eq_true rfl) rfl rfl (fun v_1 => ?_)
  refine r_if_eq C 10 20 dX12_both_7 (by decide) rfl (fun c_2 => ?_) (fun c_2 => ?_)
  · refine r_iconst C 21 (-1) (by decide) dX12_both_20 rfl ?_
    exact r_iret C Rr dX12_both_21 (fun _ => rfl) rfl
  · refine r_iload C 12 4 rfl dX12_both_10 rfl ?_
    refine r_iload C 14 5 rfl dX12_both_12 rfl ?_
    refine r_cSpI C 17 [] (ok_f_X12_isWhen x4 x5 h) dX12_both_14 lsX12_434 rfl (by decide) (Nat.le_of_ble_eq_true rfl) rfl rfl (Nat.le_of_ble_eq_true rfl) rfl rfl (fun v_3 => ?_)
    refine r_if_ne C 20 22 dX12_both_17 (by decide) rfl (fun c_4 => ?_) (fun c_4 => ?_)
    · refine r_iconst C 21 (-1) (by decide) dX12_both_20 rfl ?_
      exact r_iret C Rr dX12_both_21 (fun _ => rfl) rfl
    · refine r_aload_n C 23 0 rfl dX12_both_22 rfl ?_
      refine r_iload_n C 24 1 rfl dX12_both_23 rfl ?_
      refine r_iload_n C 25 2 rfl dX12_both_24 rfl ?_
      refine r_iload_n C 26 3 rfl dX12_both_25 rfl ?_
      refine r_iconst C 27 (-1) (by decide) dX12_both_26 rfl ?_
      refine r_cViV C 30 [] (ok_f_X12_layMix x1 x2 x3 ((-1)) h) dX12_both_27 lvX12_427 kt_151 rfl rfl rfl (by decide) (Nat.le_of_ble_eq_true rfl) rfl rfl (Nat.le_of_ble_eq_true rfl) rfl rfl (fun _ h_5 => ?_)
      refine r_aload_n C 31 0 rfl dX12_both_30 rfl ?_
      refine r_iload_n C 32 1 rfl dX12_both_31 rfl ?_
      refine r_iload C 34 4 rfl dX12_both_32 rfl ?_
      refine r_iload C 36 5 rfl dX12_both_34 rfl ?_
      refine r_cViI C 39 [] (ok_f_X12_isPass x1 x4 x5 h_5) dX12_both_36 lvX12_431 kt_151 rfl rfl rfl (by decide) (Nat.le_of_ble_eq_true rfl) rfl rfl (Nat.le_of_ble_eq_true rfl) rfl rfl (fun v_6 h_7 => ?_)
      refine imp_jn (fun (j_9 : Int32 → Option (Int32 × CH)) => ∀ (s_8 : Int32), Imp κ 47 [(0, .ref (kad κ 151)), (2, .int (x2)), (4, .int (x4)), (5, .int (x5))] [.int (s_8)] h_7 (j_9 s_8)) ?_ ?_
      · intro s_8
        refine r_aload_n C 48 0 rfl dX12_both_47 rfl ?_
        refine r_iload_n C 49 1 rfl dX12_both_48 rfl ?_
        refine r_iload C 51 2 rfl dX12_both_49 rfl ?_
        refine r_iload C 53 3 rfl dX12_both_51 rfl ?_
        refine r_cViI C 56 [.int (s_8)] (ok_f_X12_isPass x2 x4 x5 h_7) dX12_both_53 lvX12_431 kt_151 rfl rfl rfl (by decide) (Nat.le_of_ble_eq_true rfl) rfl rfl (Nat.le_of_ble_eq_true rfl) rfl rfl (fun v_10 h_11 => ?_)
        refine imp_jn (fun (j_14 : Int32 → Int32 → Option (Int32 × CH)) => ∀ (s_12 : Int32) (s_13 : Int32), Imp κ 64 [] [.int (s_12), .int (s_13)] h_11 (j_14 s_12 s_13)) ?_ ?_
        · intro s_12 s_13
          refine r_iadd C 65 dX12_both_64 rfl ?_
          exact r_iret C Rr dX12_both_65 (fun _ => rfl) rfl
        · intro j_14 hj_14
          refine r_if_eq C 59 63 dX12_both_56 (by decide) rfl (fun c_15 => ?_) (fun c_15 => ?_)
          · refine r_iconst C 64 (nI 0) (by decide) dX12_both_63 rfl ?_
            exact imp_sub [] [] rfl (hj_14 ((nI 0)) (s_8))
          · refine r_iconst C 60 (nI 2) (by decide) dX12_both_59 rfl ?_
            refine r_goto C 64 dX12_both_60 (by decide) ?_
            exact imp_sub [] [] rfl (hj_14 ((nI 2)) (s_8))
      · intro j_9 hj_9
        refine r_if_eq C 42 46 dX12_both_39 (by decide) rfl (fun c_16 => ?_) (fun c_16 => ?_)
        · refine r_iconst C 47 (nI 0) (by decide) dX12_both_46 rfl ?_
          exact imp_sub [(0, .ref (kad κ 151)), (2, .int (x2)), (4, .int (x4)), (5, .int (x5))] [0, 2, 4, 5] rfl (hj_9 ((nI 0)))
        · refine r_iconst C 43 (nI 1) (by decide) dX12_both_42 rfl ?_
          refine r_goto C 47 dX12_both_43 (by decide) ?_
          exact imp_sub [(0, .ref (kad κ 151)), (2, .int (x2)), (4, .int (x4)), (5, .int (x5))] [0, 2, 4, 5] rfl (hj_9 ((nI 1)))
set_option maxHeartbeats 4000000 in
theorem ok_f_X12_both (x1 : Int32) (x2 : Int32) (x3 : Int32) (x4 : Int32) (x5 : Int32)  (h : CH) : ∀ q, f_X12_both x1 x2 x3 x4 x5 h = some q → MG yX12_both cX12_both 6 (some .int) [] 6 (fun ad => [.ref (ad 151), .int x1, .int x2, .int x3, .int x4, .int x5]) h ((fun (q : Int32 × CH) (_ : Nat → Nat) => some (Value.int q.1)) q) ((fun (q : (Int32 × CH)) => q.2) q) := mg_of RX12 (by decide) rfl (fun _ => Nat.le_of_ble_eq_true rfl) (fun κ C Rr => imp_f_X12_both C x1 x2 x3 x4 x5 h Rr)
