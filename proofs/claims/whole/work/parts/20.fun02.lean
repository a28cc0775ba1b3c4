/-! the methods as functions, by program -/
def f_X12_image_L33 (x1 : Int32) : Nat → Int32 → CH → Option (Int32 × CH)
  | 0, _, _ => none
  | n + 1, x2, h =>
    (if (x2) < (h.1 151 60) then rdA h 178 40 (x2) fun v_6 => wrA h 187 120 ((((nI 40)) * (x1)) + (x2)) (v_6) fun h_7 => rdA h_7 179 40 (x2) fun v_8 => wrA h_7 188 120 ((((nI 40)) * (x1)) + (x2)) (v_8) fun h_9 => rdA h_9 180 40 (x2) fun v_10 => wrA h_9 189 120 ((((nI 40)) * (x1)) + (x2)) (v_10) fun h_11 => rdA h_11 181 40 (x2) fun v_12 => wrA h_11 190 120 ((((nI 40)) * (x1)) + (x2)) (v_12) fun h_13 => rdA h_13 182 40 (x2) fun v_14 => wrA h_13 191 120 ((((nI 40)) * (x1)) + (x2)) (v_14) fun h_15 => rdA h_15 183 40 (x2) fun v_16 => wrA h_15 192 120 ((((nI 40)) * (x1)) + (x2)) (v_16) fun h_17 => f_X12_image_L33 x1 n (x2 + (nI 1)) h_17 else some ((h.1 151 60), h))
def f_X12_image (x1 : Int32) (h : CH) : Option (Int32 × CH) :=
  clp (f_X12_isIn x1 ((nI 0)) ((nI 2)) h) fun v_1 => (if (v_1) = 0 then some (((-1)), h) else wrA h 185 3 (x1) (h.1 151 60) fun h_3 => wrA h_3 186 3 (x1) (h_3.1 151 61) fun h_4 => f_X12_image_L33 (x1) FU ((nI 0)) h_4)
def f_X12_back_L42 (x1 : Int32) : Nat → Int32 → CH → Option (Int32 × CH)
  | 0, _, _ => none
  | n + 1, x2, h =>
    (if (x2) < (h.1 151 60) then rdA h 187 120 ((((nI 40)) * (x1)) + (x2)) fun v_10 => wrA h 178 40 (x2) (v_10) fun h_11 => rdA h_11 188 120 ((((nI 40)) * (x1)) + (x2)) fun v_12 => wrA h_11 179 40 (x2) (v_12) fun h_13 => rdA h_13 189 120 ((((nI 40)) * (x1)) + (x2)) fun v_14 => wrA h_13 180 40 (x2) (v_14) fun h_15 => rdA h_15 190 120 ((((nI 40)) * (x1)) + (x2)) fun v_16 => wrA h_15 181 40 (x2) (v_16) fun h_17 => rdA h_17 191 120 ((((nI 40)) * (x1)) + (x2)) fun v_18 => wrA h_17 182 40 (x2) (v_18) fun h_19 => rdA h_19 192 120 ((((nI 40)) * (x1)) + (x2)) fun v_20 => wrA h_19 183 40 (x2) (v_20) fun h_21 => f_X12_back_L42 x1 n (x2 + (nI 1)) h_21 else some ((h.1 151 60), h))
def f_X12_back (x1 : Int32) (h : CH) : Option (Int32 × CH) :=
  clp (f_X12_isIn x1 ((nI 0)) ((nI 2)) h) fun v_1 => (if (v_1) = 0 then some (((-1)), h) else rdA h 185 3 (x1) fun v_3 => (if (v_3) < 0 then some (((-1)), h) else rdA h 185 3 (x1) fun v_5 => wrF h 151 60 (v_5) fun h_6 => rdA h_6 186 3 (x1) fun v_7 => wrF h_6 151 61 (v_7) fun h_8 => f_X12_back_L42 (x1) FU ((nI 0)) h_8))
def f_X12_about (x1 : Int32) (h : CH) : Option Int32 :=
  (if (x1) = (nI 0) then clp (f_X12_many h) fun v_2 => some (v_2) else (if (x1) = (nI 1) then clp (f_X12_pointMany h) fun v_4 => some (v_4) else (if (x1) = (nI 2) then some (h.1 151 40) else (if (x1) = (nI 3) then some (h.1 151 60) else (if (x1) = (nI 4) then some (h.1 151 61) else (if (x1) = (nI 5) then some (h.1 151 2) else (if (x1) = (nI 6) then some (h.1 151 44) else (if (x1) = (nI 7) then rdA h 156 2 (h.1 151 26) fun v_11 => some (v_11) else (if (x1) = (nI 8) then rdA h 157 2 (h.1 151 26) fun v_13 => some (v_13) else some ((-1)))))))))))
def f_X12_feed_L18 (x1 : Int32) (x2 : Int32) (x3 : Int32) (x4 : Int32) (x5 : Int32) : Nat → Int32 → CH → Option (Int32 × CH)
  | 0, _, _ => none
  | n + 1, x6, h =>
    (if (x6) < ((nI 20)) then jn (fun (s_3 : Int32) => wrB h 152 1620 ((h.1 151 2) + (x6)) (((s_3) >>> ((((nI 24)) - (((nI 8)) * ((x6) &&& ((nI 3))))) &&& 31)).toInt8.toInt32) fun h_5 => f_X12_feed_L18 x1 x2 x3 x4 x5 n (x6 + (nI 1)) h_5) fun (j_4 : Int32 → Option (Int32 × CH)) => (if (x6) < ((nI 4)) then j_4 (x1) else (if (x6) < ((nI 8)) then j_4 (x2) else (if (x6) < ((nI 12)) then j_4 (x3) else (if (x6) < ((nI 16)) then j_4 (x4) else j_4 (x5))))) else wrF h 151 2 ((h.1 151 2) + ((nI 20))) fun h_10 => some ((h_10.1 151 2), h_10))
def f_X12_feed (x1 : Int32) (x2 : Int32) (x3 : Int32) (x4 : Int32) (x5 : Int32) (h : CH) : Option (Int32 × CH) :=
  (if ((nI 1600)) < ((h.1 151 2) + ((nI 20))) then some (((-1)), h) else f_X12_feed_L18 (x1) (x2) (x3) (x4) (x5) FU ((nI 0)) h)
def f_X12_end (x1 : Int32) (h : CH) : Option (Int32 × CH) :=
  (if (x1) < 0 then some (((-1)), h) else (if (h.1 151 2) < (x1) then some (((-1)), h) else wrF h 151 2 (x1) fun h_3 => some ((x1), h_3)))
def f_X8_step  (h : CH) : Option (Unit × CH) :=
  jn (fun (h_1 : CH) => (if (h_1.1 2 9) < 0 then some ((), h_1) else (if (h_1.1 2 9) < ((nI 1601)) then rdA h_1 4 1601 (h_1.1 2 9) fun v_5 => wrF h_1 2 10 (v_5) fun h_6 => rdL h_6 6 1601 (h_6.1 2 9) fun v_7 => wrJ h_6 2 12 (v_7) fun h_8 => rdL h_8 6 1601 (h_8.1 2 9) fun v_9 => wrF h_8 2 11 ((v_9).toInt32) fun h_10 => some ((), h_10) else some ((), h_1)))) fun (j_2 : CH → Option (Unit × CH)) => (if ((h.1 2 9) + ((nI 1))) < (h.1 2 8) then wrF h 2 9 ((h.1 2 9) + ((nI 1))) fun h_12 => j_2 h_12 else j_2 h)
def f_X8_byteAt (x1 : Int32) (h : CH) : Option Int32 :=
  (if (x1) < 0 then some ((nI 0)) else (if (x1) < (h.1 2 5) then (if (x1) < ((nI 1600)) then rdA h 1 1600 (x1) fun v_4 => some ((v_4) &&& ((nI 255))) else some ((nI 0))) else some ((nI 0))))
def f_X8_isLetter (x0 : Int32) (h : CH) : Option Int32 :=
  (if (x0) < ((nI 97)) then some (nI 0) else (if ((nI 122)) < (x0) then some (nI 0) else some (nI 1)))
def f_X8_isDigit (x0 : Int32) (h : CH) : Option Int32 :=
  (if (x0) < ((nI 48)) then some (nI 0) else (if ((nI 57)) < (x0) then some (nI 0) else some (nI 1)))
def f_X8_isSign (x1 : Int32) (h : CH) : Option Int32 :=
  (if (x1) = (nI 40) then rz (h.1 2 6) (h.1 2 6) else (if (x1) = (nI 41) then rz (h.1 2 6) (h.1 2 6) else (if (x1) = (nI 42) then rz (h.1 2 6) (h.1 2 6) else (if (x1) = (nI 43) then rz (h.1 2 6) (h.1 2 6) else (if (x1) = (nI 45) then rz (h.1 2 6) (h.1 2 6) else (if (x1) = (nI 59) then some (nI 1) else (if (x1) = (nI 60) then rz (h.1 2 6) (h.1 2 6) else (if (x1) = (nI 61) then rz (h.1 2 6) (h.1 2 6) else (if (x1) = (nI 62) then rz (h.1 2 6) (h.1 2 6) else some (nI 0))))))))))
def f_X8_readNumber_L9 (x1 : Int32) : Nat → Int32 → Int32 → CH → Option (Int32 × CH)
  | 0, _, _, _ => none
  | n + 1, x2, x3, h =>
    jn (wrL h 6 1601 (h.1 2 8) ((x2).toInt64) fun h_2 => jn (some (((nI 27)), h_2)) fun (j_3 : Option (Int32 × CH)) => (if ((nI 4)) < ((h_2.1 2 7) - (x1)) then j_3 else clp (f_X8_byteAt (h_2.1 2 7) h_2) fun v_5 => clp (f_X8_isLetter v_5 h_2) fun v_6 => (if (v_6) = 0 then some (((nI 25)), h_2) else j_3))) fun (j_1 : Option (Int32 × CH)) => (if (x3) < (h.1 2 5) then clp (f_X8_byteAt x3 h) fun v_9 => clp (f_X8_isDigit v_9 h) fun v_10 => (if (v_10) = 0 then j_1 else clp (f_X8_byteAt x3 h) fun v_12 => wrF h 2 7 ((x3) + ((nI 1))) fun h_13 => f_X8_readNumber_L9 x1 n (((x2) * ((nI 10))) + ((v_12) - ((nI 48)))) (x3 + (nI 1)) h_13) else j_1)
def f_X8_readNumber  (h : CH) : Option (Int32 × CH) :=
  f_X8_readNumber_L9 (h.1 2 7) FU ((nI 0)) (h.1 2 7) h
def f_X8_withLetter (x0 : Int64) (x2 : Int32) (h : CH) : Option Int64 :=
  some (((x0) * (32)) + ((((x2) - ((nI 97))) + ((nI 1))).toInt64))
def f_X8_readWord_L83 (x2 : Int64) (h : CH) : Nat → Int32 → Option (Int32 × CH)
  | 0, _ => none
  | n + 1, x4 =>
    (if (x4) < ((nI 24)) then rdL h 3 24 (x4) fun v_5 => (if (lg_cmp (v_5) (x2)) = 0 then some ((x4), h) else f_X8_readWord_L83 x2 h n (x4 + (nI 1))) else some (((nI 24)), h))
def f_X8_readWord_L10 (x1 : Int32) : Nat → Int64 → Int32 → CH → Option (Int32 × CH)
  | 0, _, _, _ => none
  | n + 1, x2, x4, h =>
    jn ((if ((nI 8)) < ((h.1 2 7) - (x1)) then some (((nI 27)), h) else wrL h 6 1601 (h.1 2 8) (x2) fun h_3 => f_X8_readWord_L83 (x2) h_3 FU ((nI 0)))) fun (j_1 : Option (Int32 × CH)) => (if (x4) < (h.1 2 5) then clp (f_X8_byteAt x4 h) fun v_8 => clp (f_X8_isLetter v_8 h) fun v_9 => (if (v_9) = 0 then j_1 else clp (f_X8_byteAt x4 h) fun v_11 => clp (f_X8_withLetter x2 v_11 h) fun v_12 => wrF h 2 7 ((x4) + ((nI 1))) fun h_13 => f_X8_readWord_L10 x1 n (v_12) (x4 + (nI 1)) h_13) else j_1)
def f_X8_readWord  (h : CH) : Option (Int32 × CH) :=
  f_X8_readWord_L10 (h.1 2 7) FU (0) (h.1 2 7) h
def f_X8_readKind (x1 : Int32) (h : CH) : Option (Int32 × CH) :=
  (if (h.1 2 7) < (h.1 2 5) then clp (f_X8_isLetter x1 h) fun v_2 => (if (v_2) = 0 then clp (f_X8_isDigit x1 h) fun v_4 => (if (v_4) = 0 then wrF h 2 7 ((h.1 2 7) + ((nI 1))) fun h_6 => clp (f_X8_isSign x1 h_6) fun v_7 => (if (v_7) = 0 then some (((nI 27)), h_6) else some ((x1), h_6)) else cl (f_X8_readNumber h) fun v_9 h_10 => some ((v_9), h_10)) else cl (f_X8_readWord h) fun v_11 h_12 => some ((v_11), h_12)) else some (((nI 26)), h))
def f_X8_isBlank (x0 : Int32) (h : CH) : Option Int32 :=
  jn (some (nI 1)) fun (j_1 : Option Int32) => (if (x0) = ((nI 32)) then j_1 else (if (x0) = ((nI 10)) then j_1 else some (nI 0)))
def f_X8_readToken_L5  : Nat → Int32 → CH → Option (Int32 × CH)
  | 0, _, _ => none
  | n + 1, x1, h =>
    jn ((if (h.1 2 8) < ((nI 1601)) then wrA h 5 1601 (h.1 2 8) (h.1 2 7) fun h_3 => wrL h_3 6 1601 (h_3.1 2 8) (0) fun h_4 => clp (f_X8_byteAt (h_4.1 2 7) h_4) fun v_5 => cl (f_X8_readKind v_5 h_4) fun v_6 h_7 => wrA h_7 4 1601 (h_7.1 2 8) (v_6) fun h_8 => wrF h_8 2 8 ((h_8.1 2 8) + ((nI 1))) fun h_9 => (if (v_6) = ((nI 26)) then some ((nI 0), h_9) else (if (v_6) = ((nI 27)) then some ((nI 0), h_9) else some ((nI 1), h_9))) else some ((nI 0), h))) fun (j_1 : Option (Int32 × CH)) => (if (x1) < (h.1 2 5) then clp (f_X8_byteAt x1 h) fun v_13 => clp (f_X8_isBlank v_13 h) fun v_14 => (if (v_14) = 0 then j_1 else wrF h 2 7 ((x1) + ((nI 1))) fun h_16 => f_X8_readToken_L5 n (x1 + (nI 1)) h_16) else j_1)
def f_X8_readToken  (h : CH) : Option (Int32 × CH) :=
  f_X8_readToken_L5 FU (h.1 2 7) h
def f_X8_open_L43  : Nat → Int32 → Int32 → CH → Option (Unit × CH)
  | 0, _, _, _ => none
  | n + 1, x3, x4, h =>
    jn (wrF h 2 9 ((-1)) fun h_8 => cl (f_X8_step h_8) fun _ h_9 => some ((), h_9)) fun (j_7 : Option (Unit × CH)) => (if (x4) < ((nI 1601)) then (if (x3) = 0 then j_7 else cl (f_X8_readToken h) fun v_12 h_13 => f_X8_open_L43 n (v_12) (x4 + (nI 1)) h_13) else j_7)
def f_X8_open (x1 : Int32) (x2 : Int32) (h : CH) : Option (Unit × CH) :=
  wrF h 2 5 (mn (x1) ((nI 1600))) fun h_1 => wrG h_1 2 6 (x2) fun h_2 => wrF h_2 2 13 ((nI 0)) fun h_3 => wrF h_3 2 14 ((-1)) fun h_4 => wrF h_4 2 7 ((nI 0)) fun h_5 => wrF h_5 2 8 ((nI 0)) fun h_6 => f_X8_open_L43 FU ((nI 1)) ((nI 0)) h_6
def f_X9_setPrinter_31 (x1 : Int32) (x2 : Int32) (x3 : Int32) (h : CH) : Option (Unit × CH) :=
  (if (x1) < 0 then some ((), h) else (if (x1) < ((nI 4)) then wrA h 53 4 (x1) (x2) fun h_3 => wrA h_3 54 4 (x1) (x3) fun h_4 => some ((), h_4) else some ((), h)))
def f_X9_clear_31_L44  : Nat → Int32 → CH → Option (Unit × CH)
  | 0, _, _ => none
  | n + 1, x1, h =>
    (if (x1) < ((nI 4)) then cl (f_X9_setPrinter_31 x1 ((nI 0)) ((nI 0)) h) fun _ h_8 => f_X9_clear_31_L44 n (x1 + (nI 1)) h_8 else some ((), h))
def f_X9_clear_31_L23  : Nat → Int32 → CH → Option (Unit × CH)
  | 0, _, _ => none
  | n + 1, x1, h =>
    (if (x1) < ((nI 16)) then wrA h 52 16 (x1) ((nI 0)) fun h_6 => f_X9_clear_31_L23 n (x1 + (nI 1)) h_6 else f_X9_clear_31_L44 FU ((nI 0)) h)
def f_X9_clear_31  (h : CH) : Option (Unit × CH) :=
  wrF h 31 0 ((nI 5)) fun h_1 => wrF h_1 31 1 ((nI 20)) fun h_2 => wrF h_2 31 2 ((nI 0)) fun h_3 => wrF h_3 31 3 ((nI 0)) fun h_4 => f_X9_clear_31_L23 FU ((nI 0)) h_4
def f_X8_refuse (x1 : Int32) (h : CH) : Option (Int32 × CH) :=
  jn (fun (s_1 : Int32) => wrF h 2 13 (s_1) fun h_3 => jn (fun (s_4 : Int32) => wrF h_3 2 14 (s_4) fun h_6 => some ((nI 0), h_6)) fun (j_5 : Int32 → Option (Int32 × CH)) => jn (j_5 ((-1))) fun (j_7 : Option (Int32 × CH)) => (if (h_3.1 2 9) < 0 then j_7 else (if (h_3.1 2 9) < ((nI 1601)) then rdA h_3 5 1601 (h_3.1 2 9) fun v_10 => j_5 (v_10) else j_7))) fun (j_2 : Int32 → Option (Int32 × CH)) => (if (h.1 2 10) = ((nI 27)) then j_2 ((nI 1)) else j_2 (x1))
def f_X8_isNumber (x1 : Int32) (x2 : Int32) (h : CH) : Option (Int32 × CH) :=
  (if (h.1 2 10) = ((nI 25)) then jn (fun (h_2 : CH) => some ((nI 1), h_2)) fun (j_3 : CH → Option (Int32 × CH)) => jn (cl (f_X8_refuse ((nI 4)) h) fun v_5 h_6 => (if (v_5) = 0 then some ((nI 0), h_6) else j_3 h_6)) fun (j_4 : Option (Int32 × CH)) => (if (h.1 2 11) < (x1) then j_4 else (if (x2) < (h.1 2 11) then j_4 else j_3 h)) else cl (f_X8_refuse ((nI 2)) h) fun v_10 h_11 => rz (v_10) ((v_10), h_11))
def f_X8_take (x1 : Int32) (h : CH) : Option (Int32 × CH) :=
  (if (h.1 2 10) = (x1) then cl (f_X8_step h) fun _ h_2 => some ((nI 1), h_2) else cl (f_X8_refuse ((nI 2)) h) fun v_3 h_4 => rz (v_3) ((v_3), h_4))
def f_X10_readPoints  (h : CH) : Option (Int32 × CH) :=
  jn (cl (f_X8_refuse ((nI 2)) h) fun v_2 h_3 => rz (v_2) ((v_2), h_3)) fun (j_1 : Option (Int32 × CH)) => (if (h.1 193 2) = 0 then (if 0 < (h.1 31 2) then j_1 else cl (f_X8_step h) fun _ h_6 => cl (f_X8_isNumber ((nI 3)) ((nI 8)) h_6) fun v_7 h_8 => (if (v_7) = 0 then some ((nI 0), h_8) else wrF h_8 31 0 (h_8.1 2 11) fun h_10 => wrG h_10 193 2 ((nI 1)) fun h_11 => cl (f_X8_step h_11) fun _ h_12 => cl (f_X8_take ((nI 59)) h_12) fun v_13 h_14 => rz (v_13) ((v_13), h_14))) else j_1)
def f_X9_named_31_L2 (x1 : Int64) (h : CH) : Nat → Int32 → Option Int32
  | 0, _ => none
  | n + 1, x3 =>
    (if (x3) < (h.1 31 2) then (if (x3) < ((nI 16)) then rdL h 32 16 (x3) fun v_3 => (if (lg_cmp (v_3) (x1)) = 0 then some (x3) else f_X9_named_31_L2 x1 h n (x3 + (nI 1))) else some ((-1))) else some ((-1)))
def f_X9_named_31 (x1 : Int64) (h : CH) : Option Int32 :=
  f_X9_named_31_L2 (x1) h FU ((nI 0))
def f_X9_setNextMeasure_31 (x1 : Int32) (x2 : Int32) (h : CH) : Option (Unit × CH) :=
  (if (h.1 31 2) < ((nI 16)) then (if (x1) < 0 then some ((), h) else (if (x1) < ((nI 8)) then rdQ 36 16 (h.1 31 2) fun q_4 => wrA h q_4 8 (x1) (x2) fun h_5 => some ((), h_5) else some ((), h))) else some ((), h))
def f_X10_readRow_L15  : Nat → Int32 → CH → Option (Int32 × CH)
  | 0, _, _ => none
  | n + 1, x1, h =>
    (if (x1) < (h.1 31 0) then cl (f_X8_isNumber ((nI 0)) ((nI 99)) h) fun v_5 h_6 => (if (v_5) = 0 then some ((nI 0), h_6) else cl (f_X9_setNextMeasure_31 x1 (h_6.1 2 11) h_6) fun _ h_8 => cl (f_X8_step h_8) fun _ h_9 => f_X10_readRow_L15 n (x1 + (nI 1)) h_9) else some ((nI 1), h))
def f_X10_readRow  (h : CH) : Option (Int32 × CH) :=
  cl (f_X8_take ((nI 4)) h) fun v_1 h_2 => (if (v_1) = 0 then some ((nI 0), h_2) else f_X10_readRow_L15 FU ((nI 0)) h_2)
def f_X9_add_31 (x1 : Int64) (x3 : Int32) (x4 : Int32) (h : CH) : Option (Unit × CH) :=
  (if (h.1 31 2) < ((nI 16)) then wrL h 32 16 (h.1 31 2) (x1) fun h_2 => wrA h_2 33 16 (h_2.1 31 2) (x3) fun h_3 => wrA h_3 34 16 (h_3.1 31 2) (x4) fun h_4 => wrF h_4 31 2 ((h_4.1 31 2) + ((nI 1))) fun h_5 => some ((), h_5) else some ((), h))
def f_X10_readFace  (h : CH) : Option (Int32 × CH) :=
  (if (h.1 31 2) < ((nI 16)) then cl (f_X8_step h) fun _ h_2 => (if (h_2.1 2 10) = ((nI 24)) then clp (f_X9_named_31 (h_2.2 2 12) h_2) fun v_4 => (if (v_4) = ((-1)) then cl (f_X8_step h_2) fun _ h_6 => cl (f_X8_take ((nI 2)) h_6) fun v_7 h_8 => (if (v_7) = 0 then some ((nI 0), h_8) else cl (f_X8_isNumber ((nI 0)) ((nI 3)) h_8) fun v_10 h_11 => (if (v_10) = 0 then some ((nI 0), h_11) else cl (f_X8_step h_11) fun _ h_13 => cl (f_X8_take ((nI 3)) h_13) fun v_14 h_15 => (if (v_14) = 0 then some ((nI 0), h_15) else cl (f_X8_isNumber ((nI 0)) ((nI 9)) h_15) fun v_17 h_18 => (if (v_17) = 0 then some ((nI 0), h_18) else cl (f_X8_step h_18) fun _ h_20 => cl (f_X10_readRow h_20) fun v_21 h_22 => (if (v_21) = 0 then some ((nI 0), h_22) else cl (f_X8_take ((nI 59)) h_22) fun v_24 h_25 => (if (v_24) = 0 then some ((nI 0), h_25) else cl (f_X9_add_31 (h_2.2 2 12) (h_11.1 2 11) (h_18.1 2 11) h_25) fun _ h_27 => some ((nI 1), h_27))))))) else cl (f_X8_refuse ((nI 3)) h_2) fun v_28 h_29 => rz (v_28) ((v_28), h_29)) else cl (f_X8_refuse ((nI 2)) h_2) fun v_30 h_31 => rz (v_30) ((v_30), h_31)) else cl (f_X8_refuse ((nI 2)) h) fun v_32 h_33 => rz (v_32) ((v_32), h_33))
def f_X10_faceHere  (h : CH) : Option (Int32 × CH) :=
  jn (fun (s_1 : Int32) => (if (s_1) = ((-1)) then jn (fun (s_4 : Int32) => cl (f_X8_refuse s_4 h) fun v_6 h_7 => some ((s_1), h_7)) fun (j_5 : Int32 → Option (Int32 × CH)) => (if (h.1 2 10) = ((nI 24)) then j_5 ((nI 5)) else j_5 ((nI 2))) else some ((s_1), h))) fun (j_2 : Int32 → Option (Int32 × CH)) => (if (h.1 2 10) = ((nI 24)) then clp (f_X9_named_31 (h.2 2 12) h) fun v_10 => j_2 (v_10) else j_2 ((-1)))
def f_X9_has_31 (x1 : Int32) (h : CH) : Option Int32 :=
  (if (x1) < 0 then some (nI 0) else (if (x1) < (h.1 31 2) then (if (x1) < ((nI 16)) then some (nI 1) else some (nI 0)) else some (nI 0)))
def f_X9_knowEachOther_31 (x1 : Int32) (x2 : Int32) (h : CH) : Option Int32 :=
  clp (f_X9_has_31 x1 h) fun v_1 => (if (v_1) = 0 then some (nI 0) else clp (f_X9_has_31 x2 h) fun v_3 => (if (v_3) = 0 then some (nI 0) else rdA h 52 16 (x1) fun v_5 => (if (((v_5) >>> ((x2) &&& 31)) &&& ((nI 1))) = ((nI 1)) then some (nI 1) else some (nI 0))))
def f_X9_addKnows_31 (x1 : Int32) (x2 : Int32) (h : CH) : Option (Unit × CH) :=
  clp (f_X9_has_31 x1 h) fun v_1 => (if (v_1) = 0 then some ((), h) else clp (f_X9_has_31 x2 h) fun v_3 => (if (v_3) = 0 then some ((), h) else rdA h 52 16 (x1) fun v_5 => wrA h 52 16 (x1) ((v_5) ||| (((nI 1)) <<< ((x2) &&& 31))) fun h_6 => rdA h_6 52 16 (x2) fun v_7 => wrA h_6 52 16 (x2) ((v_7) ||| (((nI 1)) <<< ((x1) &&& 31))) fun h_8 => wrF h_8 31 3 ((h_8.1 31 3) + ((nI 1))) fun h_9 => some ((), h_9)))
def f_X10_readKnows  (h : CH) : Option (Int32 × CH) :=
  (if (h.1 31 3) < ((nI 20)) then cl (f_X8_step h) fun _ h_2 => cl (f_X10_faceHere h_2) fun v_3 h_4 => (if (v_3) = ((-1)) then some ((nI 0), h_4) else cl (f_X8_step h_4) fun _ h_6 => cl (f_X10_faceHere h_6) fun v_7 h_8 => (if (v_7) = ((-1)) then some ((nI 0), h_8) else jn (cl (f_X8_refuse ((nI 3)) h_8) fun v_11 h_12 => rz (v_11) ((v_11), h_12)) fun (j_10 : Option (Int32 × CH)) => (if (v_3) = (v_7) then j_10 else clp (f_X9_knowEachOther_31 v_3 v_7 h_8) fun v_14 => (if (v_14) = 0 then cl (f_X8_step h_8) fun _ h_16 => cl (f_X8_take ((nI 59)) h_16) fun v_17 h_18 => (if (v_17) = 0 then some ((nI 0), h_18) else cl (f_X9_addKnows_31 v_3 v_7 h_18) fun _ h_20 => some ((nI 1), h_20)) else j_10)))) else cl (f_X8_refuse ((nI 2)) h) fun v_21 h_22 => rz (v_21) ((v_21), h_22))
def f_X10_readPrinter  (h : CH) : Option (Int32 × CH) :=
  cl (f_X8_step h) fun _ h_1 => cl (f_X8_isNumber ((nI 0)) ((nI 3)) h_1) fun v_2 h_3 => (if (v_2) = 0 then some ((nI 0), h_3) else (if (((h_3.1 193 4) >>> ((h_3.1 2 11) &&& 31)) &&& ((nI 1))) = ((nI 1)) then cl (f_X8_refuse ((nI 3)) h_3) fun v_6 h_7 => rz (v_6) ((v_6), h_7) else cl (f_X8_step h_3) fun _ h_8 => cl (f_X8_take ((nI 7)) h_8) fun v_9 h_10 => (if (v_9) = 0 then some ((nI 0), h_10) else cl (f_X8_isNumber ((nI 0)) ((nI 9)) h_10) fun v_12 h_13 => (if (v_12) = 0 then some ((nI 0), h_13) else cl (f_X8_step h_13) fun _ h_15 => cl (f_X8_take ((nI 8)) h_15) fun v_16 h_17 => (if (v_16) = 0 then some ((nI 0), h_17) else cl (f_X8_isNumber ((nI 0)) ((nI 99)) h_17) fun v_19 h_20 => (if (v_19) = 0 then some ((nI 0), h_20) else cl (f_X9_setPrinter_31 (h_3.1 2 11) (h_13.1 2 11) (h_20.1 2 11) h_20) fun _ h_22 => wrF h_22 193 4 ((h_22.1 193 4) ||| (((nI 1)) <<< ((h_3.1 2 11) &&& 31))) fun h_23 => cl (f_X8_step h_23) fun _ h_24 => cl (f_X8_take ((nI 59)) h_24) fun v_25 h_26 => rz (v_25) ((v_25), h_26)))))))
def f_X10_readNear  (h : CH) : Option (Int32 × CH) :=
  (if (h.1 193 3) = 0 then cl (f_X8_step h) fun _ h_2 => cl (f_X8_isNumber ((nI 0)) ((nI 800)) h_2) fun v_3 h_4 => (if (v_3) = 0 then some ((nI 0), h_4) else wrF h_4 31 1 (h_4.1 2 11) fun h_6 => wrG h_6 193 3 ((nI 1)) fun h_7 => cl (f_X8_step h_7) fun _ h_8 => cl (f_X8_take ((nI 59)) h_8) fun v_9 h_10 => rz (v_9) ((v_9), h_10)) else cl (f_X8_refuse ((nI 2)) h) fun v_11 h_12 => rz (v_11) ((v_11), h_12))
def f_X10_readLine  (h : CH) : Option (Int32 × CH) :=
  (if (h.1 2 10) = (nI 0) then cl (f_X10_readPoints h) fun v_2 h_3 => rz (v_2) ((v_2), h_3) else (if (h.1 2 10) = (nI 1) then cl (f_X10_readFace h) fun v_5 h_6 => rz (v_5) ((v_5), h_6) else (if (h.1 2 10) = (nI 5) then cl (f_X10_readKnows h) fun v_8 h_9 => rz (v_8) ((v_8), h_9) else (if (h.1 2 10) = (nI 6) then cl (f_X10_readPrinter h) fun v_11 h_12 => rz (v_11) ((v_11), h_12) else (if (h.1 2 10) = (nI 9) then cl (f_X10_readNear h) fun v_14 h_15 => rz (v_14) ((v_14), h_15) else cl (f_X8_refuse ((nI 2)) h) fun v_16 h_17 => rz (v_16) ((v_16), h_17))))))
def f_X10_read_L9  : Nat → Int32 → CH → Option (Int32 × CH)
  | 0, _, _ => none
  | n + 1, x1, h =>
    (if (x1) < ((nI 1600)) then (if (h.1 2 10) = ((nI 26)) then some ((nI 1), h) else cl (f_X10_readLine h) fun v_4 h_5 => (if (v_4) = 0 then some ((nI 0), h_5) else f_X10_read_L9 n (x1 + (nI 1)) h_5)) else some ((nI 1), h))
def f_X10_read  (h : CH) : Option (Int32 × CH) :=
  cl (f_X9_clear_31 h) fun _ h_1 => f_X10_read_L9 FU ((nI 0)) h_1
def f_X11_keepFault  (h : CH) : Option (Unit × CH) :=
  wrF h 0 2 (h.1 2 13) fun h_1 => wrF h_1 0 3 (h_1.1 2 14) fun h_2 => some ((), h_2)
def f_X9_setPrinter_7 (x1 : Int32) (x2 : Int32) (x3 : Int32) (h : CH) : Option (Unit × CH) :=
  (if (x1) < 0 then some ((), h) else (if (x1) < ((nI 4)) then wrA h 29 4 (x1) (x2) fun h_3 => wrA h_3 30 4 (x1) (x3) fun h_4 => some ((), h_4) else some ((), h)))
def f_X9_copyFrom_7_31_L115  : Nat → Int32 → CH → Option (Unit × CH)
  | 0, _, _ => none
  | n + 1, x2, h =>
    (if (x2) < ((nI 4)) then rdA h 53 4 (x2) fun v_18 => rdA h 54 4 (x2) fun v_19 => cl (f_X9_setPrinter_7 x2 v_18 v_19 h) fun _ h_20 => f_X9_copyFrom_7_31_L115 n (x2 + (nI 1)) h_20 else some ((), h))
def f_X9_copyFrom_7_31_L34  : Nat → Int32 → CH → Option (Unit × CH)
  | 0, _, _ => none
  | n + 1, x2, h =>
    (if (x2) < ((nI 16)) then rdL h 32 16 (x2) fun v_6 => wrL h 8 16 (x2) (v_6) fun h_7 => rdA h_7 33 16 (x2) fun v_8 => wrA h_7 9 16 (x2) (v_8) fun h_9 => rdA h_9 34 16 (x2) fun v_10 => wrA h_9 10 16 (x2) (v_10) fun h_11 => rdA h_11 52 16 (x2) fun v_12 => wrA h_11 28 16 (x2) (v_12) fun h_13 => rdQ 36 16 (x2) fun q_14 => rdQ 12 16 (x2) fun q_15 => cpA h_13 q_14 q_15 fun h_16 => f_X9_copyFrom_7_31_L34 n (x2 + (nI 1)) h_16 else f_X9_copyFrom_7_31_L115 FU ((nI 0)) h)
def f_X9_copyFrom_7_31  (h : CH) : Option (Unit × CH) :=
  wrF h 7 0 (h.1 31 0) fun h_1 => wrF h_1 7 1 (h_1.1 31 1) fun h_2 => wrF h_2 7 2 (h_2.1 31 2) fun h_3 => wrF h_3 7 3 (h_3.1 31 3) fun h_4 => f_X9_copyFrom_7_31_L34 FU ((nI 0)) h_4
def f_X5_clear_55  (h : CH) : Option (Unit × CH) :=
  wrF h 55 0 ((nI 0)) fun h_1 => wrF h_1 55 1 ((nI 0)) fun h_2 => wrF h_2 55 5 ((nI 0)) fun h_3 => wrG h_3 55 2 ((nI 0)) fun h_4 => some ((), h_4)
def f_X2_empty_71  (h : CH) : Option (Unit × CH) :=
  wrF h 71 0 ((nI 0)) fun h_1 => some ((), h_1)
def f_X11_emptyBoxes_L2  : Nat → Int32 → CH → Option (Unit × CH)
  | 0, _, _ => none
  | n + 1, x1, h =>
    (if (x1) < ((nI 3)) then clp (f_X11_boxAt x1 h) fun v_2 => jn (fun (h_3 : CH) => f_X11_emptyBoxes_L2 n (x1 + (nI 1)) h_3) fun (j_4 : CH → Option (Unit × CH)) => (if v_2 = none then j_4 h else if v_2 = some 130 then wrG h 130 2 ((nI 0)) fun h_6 => j_4 h_6 else if v_2 = some 137 then wrG h 137 2 ((nI 0)) fun h_8 => j_4 h_8 else if v_2 = some 144 then wrG h 144 2 ((nI 0)) fun h_10 => j_4 h_10 else none) else some ((), h))
def f_X11_emptyBoxes  (h : CH) : Option (Unit × CH) :=
  f_X11_emptyBoxes_L2 FU ((nI 0)) h
def f_X5_clear_63  (h : CH) : Option (Unit × CH) :=
  wrF h 63 0 ((nI 0)) fun h_1 => wrF h_1 63 1 ((nI 0)) fun h_2 => wrF h_2 63 5 ((nI 0)) fun h_3 => wrG h_3 63 2 ((nI 0)) fun h_4 => some ((), h_4)
def f_X5_stepsSoFar_63  (h : CH) : Option Int32 :=
  some (h.1 63 5)
def f_X5_put_63 (x1 : Int32) (x2 : Int32) (h : CH) : Option (Unit × CH) :=
  (if (h.1 63 5) < ((nI 800)) then wrA h 67 800 (h.1 63 5) (x1) fun h_2 => wrA h_2 68 800 (h_2.1 63 5) (x2) fun h_3 => wrF h_3 63 5 ((h_3.1 63 5) + ((nI 1))) fun h_4 => some ((), h_4) else some ((), h))
def f_X6_readValue (x1 : Int32) (h : CH) : Option (Int32 × CH) :=
  (if (x1) = ((-1)) then cl (f_X8_refuse ((nI 2)) h) fun v_2 h_3 => rz (v_2) ((v_2), h_3) else cl (f_X5_put_63 ((nI 1)) x1 h) fun _ h_4 => cl (f_X8_step h_4) fun _ h_5 => some ((nI 1), h_5))
def f_X6_readAt  (h : CH) : Option (Int32 × CH) :=
  (if (h.1 194 3) = 0 then cl (f_X8_step h) fun _ h_2 => cl (f_X8_isNumber ((nI 0)) ((h_2.1 194 2) - ((nI 1))) h_2) fun v_3 h_4 => (if (v_3) = 0 then some ((nI 0), h_4) else cl (f_X6_readValue (((nI 4)) + (h_4.1 2 11)) h_4) fun v_6 h_7 => (if (v_6) = 0 then some ((nI 0), h_7) else some ((nI 1), h_7))) else cl (f_X8_refuse ((nI 2)) h) fun v_9 h_10 => rz (v_9) ((v_9), h_10))
def f_X6_signValueHere  (h : CH) : Option Int32 :=
  (if (h.1 2 10) = (nI 16) then some ((nI 0)) else (if (h.1 2 10) = (nI 17) then some ((nI 1)) else (if (h.1 2 10) = (nI 18) then some ((nI 2)) else (if (h.1 2 10) = (nI 19) then some ((nI 3)) else some ((-1))))))
def f_X6_barValueHere  (h : CH) : Option Int32 :=
  (if (h.1 2 10) = (nI 2) then some ((nI 1)) else (if (h.1 2 10) = (nI 13) then some ((nI 0)) else (if (h.1 2 10) = (nI 14) then some ((nI 2)) else (if (h.1 2 10) = (nI 15) then some ((nI 3)) else some ((-1))))))
def f_X6_relationHere  (h : CH) : Option Int32 :=
  (if (h.1 2 10) = (nI 60) then some ((nI 6)) else (if (h.1 2 10) = (nI 61) then some ((nI 8)) else (if (h.1 2 10) = (nI 62) then some ((nI 7)) else some ((-1)))))
def b_X6_readInner (g : Nat → Int32 → CH → Option (Int32 × CH)) (x1 : Int32) (h : CH) : Option (Int32 × CH) :=
  (if ((nI 6)) < (x1) then cl (f_X8_refuse ((nI 2)) h) fun v_2 h_3 => rz (v_2) ((v_2), h_3) else cl (f_X8_step h) fun _ h_4 => cl (g 0 ((x1) + ((nI 1))) h_4) fun v_5 h_6 => (if (v_5) = 0 then some ((nI 0), h_6) else cl (f_X8_take ((nI 41)) h_6) fun v_8 h_9 => (if (v_8) = 0 then some ((nI 0), h_9) else some ((nI 1), h_9))))
def b_X6_readUnit (g : Nat → Int32 → CH → Option (Int32 × CH)) (x1 : Int32) (h : CH) : Option (Int32 × CH) :=
  (if (h.1 63 1) < ((nI 40)) then wrF h 63 1 ((h.1 63 1) + ((nI 1))) fun h_2 => (if (h_2.1 2 10) = (nI 20) then cl (f_X6_readAt h_2) fun v_4 h_5 => rz (v_4) ((v_4), h_5) else (if (h_2.1 2 10) = (nI 25) then cl (f_X5_put_63 ((nI 0)) (h_2.1 2 11) h_2) fun _ h_7 => cl (f_X8_step h_7) fun _ h_8 => some ((nI 1), h_8) else (if (h_2.1 2 10) = (nI 40) then cl (g 7 x1 h_2) fun v_10 h_11 => rz (v_10) ((v_10), h_11) else jn (fun (s_12 : Int32) => cl (f_X6_readValue s_12 h_2) fun v_14 h_15 => rz (v_14) ((v_14), h_15)) fun (j_13 : Int32 → Option (Int32 × CH)) => (if (h_2.1 194 3) = 0 then clp (f_X6_signValueHere h_2) fun v_17 => j_13 (v_17) else clp (f_X6_barValueHere h_2) fun v_18 => j_13 (v_18))))) else cl (f_X8_refuse ((nI 2)) h) fun v_19 h_20 => rz (v_19) ((v_19), h_20))
def b_X6_readTerm_L12 (g : Nat → Int32 → CH → Option (Int32 × CH)) (x1 : Int32) : Nat → Int32 → CH → Option (Int32 × CH)
  | 0, _, _ => none
  | n + 1, x2, h =>
    (if (x2) < ((nI 40)) then (if (h.1 2 10) = ((nI 42)) then cl (f_X8_step h) fun _ h_6 => cl (g 6 x1 h_6) fun v_7 h_8 => (if (v_7) = 0 then some ((nI 0), h_8) else cl (f_X5_put_63 ((nI 3)) ((nI 0)) h_8) fun _ h_10 => b_X6_readTerm_L12 g x1 n (x2 + (nI 1)) h_10) else some ((nI 1), h)) else some ((nI 1), h))
def b_X6_readTerm (g : Nat → Int32 → CH → Option (Int32 × CH)) (x1 : Int32) (h : CH) : Option (Int32 × CH) :=
  cl (g 6 x1 h) fun v_1 h_2 => (if (v_1) = 0 then some ((nI 0), h_2) else b_X6_readTerm_L12 g (x1) FU ((nI 0)) h_2)
def b_X6_readSum_L12 (g : Nat → Int32 → CH → Option (Int32 × CH)) (x1 : Int32) : Nat → Int32 → CH → Option (Int32 × CH)
  | 0, _, _ => none
  | n + 1, x2, h =>
    (if (x2) < ((nI 40)) then jn (jn (fun (s_6 : Int32) => cl (f_X8_step h) fun _ h_8 => cl (g 5 x1 h_8) fun v_9 h_10 => (if (v_9) = 0 then some ((nI 0), h_10) else cl (f_X5_put_63 s_6 ((nI 0)) h_10) fun _ h_12 => b_X6_readSum_L12 g x1 n (x2 + (nI 1)) h_12)) fun (j_7 : Int32 → Option (Int32 × CH)) => (if (h.1 2 10) = ((nI 43)) then j_7 ((nI 4)) else j_7 ((nI 5)))) fun (j_5 : Option (Int32 × CH)) => (if (h.1 2 10) = ((nI 43)) then j_5 else (if (h.1 2 10) = ((nI 45)) then j_5 else some ((nI 1), h))) else some ((nI 1), h))
def b_X6_readSum (g : Nat → Int32 → CH → Option (Int32 × CH)) (x1 : Int32) (h : CH) : Option (Int32 × CH) :=
  cl (g 5 x1 h) fun v_1 h_2 => (if (v_1) = 0 then some ((nI 0), h_2) else b_X6_readSum_L12 g (x1) FU ((nI 0)) h_2)
def b_X6_readRelation (g : Nat → Int32 → CH → Option (Int32 × CH)) (x1 : Int32) (h : CH) : Option (Int32 × CH) :=
  cl (g 4 x1 h) fun v_1 h_2 => (if (v_1) = 0 then some ((nI 0), h_2) else clp (f_X6_relationHere h_2) fun v_4 => (if (v_4) = ((-1)) then some ((nI 1), h_2) else cl (f_X8_step h_2) fun _ h_6 => cl (g 4 x1 h_6) fun v_7 h_8 => (if (v_7) = 0 then some ((nI 0), h_8) else cl (f_X5_put_63 v_4 ((nI 0)) h_8) fun _ h_10 => some ((nI 1), h_10))))
def b_X6_readOne (g : Nat → Int32 → CH → Option (Int32 × CH)) (x1 : Int32) (h : CH) : Option (Int32 × CH) :=
  (if (h.1 2 10) = ((nI 23)) then (if ((nI 6)) < (x1) then cl (f_X8_refuse ((nI 2)) h) fun v_3 h_4 => rz (v_3) ((v_3), h_4) else cl (f_X8_step h) fun _ h_5 => cl (g 2 ((x1) + ((nI 1))) h_5) fun v_6 h_7 => (if (v_6) = 0 then some ((nI 0), h_7) else cl (f_X5_put_63 ((nI 2)) ((nI 0)) h_7) fun _ h_9 => some ((nI 1), h_9))) else cl (g 3 x1 h) fun v_10 h_11 => rz (v_10) ((v_10), h_11))
def b_X6_readBoth_L12 (g : Nat → Int32 → CH → Option (Int32 × CH)) (x1 : Int32) : Nat → Int32 → CH → Option (Int32 × CH)
  | 0, _, _ => none
  | n + 1, x2, h =>
    (if (x2) < ((nI 40)) then (if (h.1 2 10) = ((nI 21)) then cl (f_X8_step h) fun _ h_6 => cl (g 2 x1 h_6) fun v_7 h_8 => (if (v_7) = 0 then some ((nI 0), h_8) else cl (f_X5_put_63 ((nI 9)) ((nI 0)) h_8) fun _ h_10 => b_X6_readBoth_L12 g x1 n (x2 + (nI 1)) h_10) else some ((nI 1), h)) else some ((nI 1), h))
def b_X6_readBoth (g : Nat → Int32 → CH → Option (Int32 × CH)) (x1 : Int32) (h : CH) : Option (Int32 × CH) :=
  cl (g 2 x1 h) fun v_1 h_2 => (if (v_1) = 0 then some ((nI 0), h_2) else b_X6_readBoth_L12 g (x1) FU ((nI 0)) h_2)
def b_X6_readE_L12 (g : Nat → Int32 → CH → Option (Int32 × CH)) (x1 : Int32) : Nat → Int32 → CH → Option (Int32 × CH)
  | 0, _, _ => none
  | n + 1, x2, h =>
    (if (x2) < ((nI 40)) then (if (h.1 2 10) = ((nI 22)) then cl (f_X8_step h) fun _ h_6 => cl (g 1 x1 h_6) fun v_7 h_8 => (if (v_7) = 0 then some ((nI 0), h_8) else cl (f_X5_put_63 ((nI 10)) ((nI 0)) h_8) fun _ h_10 => b_X6_readE_L12 g x1 n (x2 + (nI 1)) h_10) else some ((nI 1), h)) else some ((nI 1), h))
def b_X6_readE (g : Nat → Int32 → CH → Option (Int32 × CH)) (x1 : Int32) (h : CH) : Option (Int32 × CH) :=
  cl (g 1 x1 h) fun v_1 h_2 => (if (v_1) = 0 then some ((nI 0), h_2) else b_X6_readE_L12 g (x1) FU ((nI 0)) h_2)
/-- the expressions' readers, by their numbers -/
def f_grp : Nat → Nat → Int32 → CH → Option (Int32 × CH)
  | 0, _, _, _ => none
  | n + 1, i, x, h => if i = 0 then b_X6_readE (f_grp n) x h else if i = 1 then b_X6_readBoth (f_grp n) x h else if i = 2 then b_X6_readOne (f_grp n) x h else if i = 3 then b_X6_readRelation (f_grp n) x h else if i = 4 then b_X6_readSum (f_grp n) x h else if i = 5 then b_X6_readTerm (f_grp n) x h else if i = 6 then b_X6_readUnit (f_grp n) x h else if i = 7 then b_X6_readInner (f_grp n) x h else none
def f_X5_addBar_63 (x1 : Int32) (h : CH) : Option (Unit × CH) :=
  wrG h 63 2 ((nI 1)) fun h_1 => wrF h_1 63 3 (x1) fun h_2 => wrF h_2 63 4 (h_2.1 63 5) fun h_3 => some ((), h_3)
def f_X6_readBar  (h : CH) : Option (Int32 × CH) :=
  (if (h.1 63 2) = 0 then cl (f_X8_step h) fun _ h_2 => wrG h_2 194 3 ((nI 1)) fun h_3 => clp (f_X5_stepsSoFar_63 h_3) fun v_4 => cl (f_grp 100 0 ((nI 0)) h_3) fun v_5 h_6 => (if (v_5) = 0 then some ((nI 0), h_6) else cl (f_X8_take ((nI 59)) h_6) fun v_8 h_9 => (if (v_8) = 0 then some ((nI 0), h_9) else cl (f_X5_addBar_63 v_4 h_9) fun _ h_11 => some ((nI 1), h_11))) else cl (f_X8_refuse ((nI 2)) h) fun v_12 h_13 => rz (v_12) ((v_12), h_13))
def f_X5_hasSign_63_L2 (x1 : Int64) (h : CH) : Nat → Int32 → Option Int32
  | 0, _ => none
  | n + 1, x3 =>
    (if (x3) < (h.1 63 0) then (if (x3) < ((nI 6)) then rdL h 64 6 (x3) fun v_3 => (if (lg_cmp (v_3) (x1)) = 0 then some (nI 1) else f_X5_hasSign_63_L2 x1 h n (x3 + (nI 1))) else some (nI 0)) else some (nI 0))
def f_X5_hasSign_63 (x1 : Int64) (h : CH) : Option Int32 :=
  f_X5_hasSign_63_L2 (x1) h FU ((nI 0))
def f_X5_addSign_63 (x1 : Int64) (x3 : Int32) (h : CH) : Option (Unit × CH) :=
  (if (h.1 63 0) < ((nI 6)) then wrL h 64 6 (h.1 63 0) (x1) fun h_2 => wrA h_2 65 6 (h_2.1 63 0) (x3) fun h_3 => wrA h_3 66 6 (h_3.1 63 0) (h_3.1 63 5) fun h_4 => wrF h_4 63 0 ((h_4.1 63 0) + ((nI 1))) fun h_5 => some ((), h_5) else some ((), h))
def f_X6_readSign  (h : CH) : Option (Int32 × CH) :=
  (if (h.1 63 0) < ((nI 6)) then cl (f_X8_step h) fun _ h_2 => (if (h_2.1 2 10) = ((nI 24)) then clp (f_X5_hasSign_63 (h_2.2 2 12) h_2) fun v_4 => (if (v_4) = 0 then cl (f_X8_step h_2) fun _ h_6 => wrG h_6 194 3 ((nI 0)) fun h_7 => clp (f_X5_stepsSoFar_63 h_7) fun v_8 => cl (f_X8_take ((nI 12)) h_7) fun v_9 h_10 => (if (v_9) = 0 then some ((nI 0), h_10) else cl (f_grp 100 0 ((nI 0)) h_10) fun v_12 h_13 => (if (v_12) = 0 then some ((nI 0), h_13) else cl (f_X8_take ((nI 59)) h_13) fun v_15 h_16 => (if (v_15) = 0 then some ((nI 0), h_16) else cl (f_X5_addSign_63 (h_2.2 2 12) v_8 h_16) fun _ h_18 => some ((nI 1), h_18)))) else cl (f_X8_refuse ((nI 3)) h_2) fun v_19 h_20 => rz (v_19) ((v_19), h_20)) else cl (f_X8_refuse ((nI 2)) h_2) fun v_21 h_22 => rz (v_21) ((v_21), h_22)) else cl (f_X8_refuse ((nI 2)) h) fun v_23 h_24 => rz (v_23) ((v_23), h_24))
def f_X6_readLine  (h : CH) : Option (Int32 × CH) :=
  (if (h.1 2 10) = (nI 10) then cl (f_X6_readBar h) fun v_2 h_3 => rz (v_2) ((v_2), h_3) else (if (h.1 2 10) = (nI 11) then cl (f_X6_readSign h) fun v_5 h_6 => rz (v_5) ((v_5), h_6) else cl (f_X8_refuse ((nI 2)) h) fun v_7 h_8 => rz (v_7) ((v_7), h_8)))
def f_X6_read_L9  : Nat → Int32 → CH → Option (Int32 × CH)
  | 0, _, _ => none
  | n + 1, x1, h =>
    (if (x1) < ((nI 800)) then (if (h.1 2 10) = ((nI 26)) then some ((nI 1), h) else cl (f_X6_readLine h) fun v_4 h_5 => (if (v_4) = 0 then some ((nI 0), h_5) else f_X6_read_L9 n (x1 + (nI 1)) h_5)) else some ((nI 1), h))
def f_X6_read  (h : CH) : Option (Int32 × CH) :=
  cl (f_X5_clear_63 h) fun _ h_1 => f_X6_read_L9 FU ((nI 0)) h_1
def f_X5_copyFrom_55_63_L100  : Nat → Int32 → CH → Option (Unit × CH)
  | 0, _, _ => none
  | n + 1, x2, h =>
    (if (x2) < (h.1 55 5) then (if (x2) < ((nI 800)) then rdA h 67 800 (x2) fun v_16 => wrA h 59 800 (x2) (v_16) fun h_17 => rdA h_17 68 800 (x2) fun v_18 => wrA h_17 60 800 (x2) (v_18) fun h_19 => f_X5_copyFrom_55_63_L100 n (x2 + (nI 1)) h_19 else some ((), h)) else some ((), h))
def f_X5_copyFrom_55_63_L50  : Nat → Int32 → CH → Option (Unit × CH)
  | 0, _, _ => none
  | n + 1, x2, h =>
    (if (x2) < ((nI 6)) then rdL h 64 6 (x2) fun v_8 => wrL h 56 6 (x2) (v_8) fun h_9 => rdA h_9 65 6 (x2) fun v_10 => wrA h_9 57 6 (x2) (v_10) fun h_11 => rdA h_11 66 6 (x2) fun v_12 => wrA h_11 58 6 (x2) (v_12) fun h_13 => f_X5_copyFrom_55_63_L50 n (x2 + (nI 1)) h_13 else f_X5_copyFrom_55_63_L100 FU ((nI 0)) h)
def f_X5_copyFrom_55_63  (h : CH) : Option (Unit × CH) :=
  wrF h 55 0 (h.1 63 0) fun h_1 => wrF h_1 55 1 (h_1.1 63 1) fun h_2 => wrF h_2 55 5 (h_2.1 63 5) fun h_3 => wrG h_3 55 2 (h_3.1 63 2) fun h_4 => wrF h_4 55 3 (h_4.1 63 3) fun h_5 => wrF h_5 55 4 (h_5.1 63 4) fun h_6 => f_X5_copyFrom_55_63_L50 FU ((nI 0)) h_6
def f_X5_lines_55  (h : CH) : Option Int32 :=
  jn (fun (s_1 : Int32) (s_2 : Int32) => some ((s_2) + (s_1))) fun (j_3 : Int32 → Int32 → Option Int32) => (if (h.1 55 2) = 0 then j_3 ((nI 0)) (h.1 55 0) else j_3 ((nI 1)) (h.1 55 0))
