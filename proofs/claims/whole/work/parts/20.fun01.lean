/-! the methods as functions, by program -/
def f_X12_fails (x1 : Int32) (x2 : Int32) (h : CH) : Option (Unit × CH) :=
  (if 0 < (h.1 151 4) then some ((), h) else wrF h 151 4 (x1) fun h_2 => wrF h_2 151 5 (x2) fun h_3 => some ((), h_3))
def f_X12_misplaced  (h : CH) : Option (Unit × CH) :=
  jn (fun (s_1 : Int32) => cl (f_X12_fails s_1 (h.1 151 6) h) fun _ h_3 => some ((), h_3)) fun (j_2 : Int32 → Option (Unit × CH)) => (if (h.1 151 8) = ((nI 1)) then j_2 ((nI 1)) else j_2 ((nI 2)))
def f_X12_must (x1 : Int32) (h : CH) : Option (Unit × CH) :=
  clp (f_X12_isGood h) fun v_1 => (if (v_1) = 0 then some ((), h) else (if (x1) = 0 then cl (f_X12_misplaced h) fun _ h_4 => some ((), h_4) else cl (f_X12_goOn h) fun _ h_5 => some ((), h_5)))
def f_X12_numeral (x1 : Int32) (x2 : Int32) (h : CH) : Option (Int32 × CH) :=
  clp (f_X12_isGood h) fun v_1 => (if (v_1) = 0 then some ((x1), h) else jn (fun (h_3 : CH) => clp (f_X12_isGood h_3) fun v_5 => jn (fun (h_6 : CH) => clp (f_X12_isGood h_6) fun v_8 => jn (fun (h_9 : CH) => clp (f_X12_isGood h_9) fun v_11 => (if (v_11) = 0 then some ((x1), h_9) else some ((h_6.1 151 9), h_9))) fun (j_10 : CH → Option (Int32 × CH)) => (if (v_8) = 0 then j_10 h_6 else cl (f_X12_goOn h_6) fun _ h_14 => j_10 h_14)) fun (j_7 : CH → Option (Int32 × CH)) => (if (v_5) = 0 then j_7 h_3 else jn (cl (f_X12_fails ((nI 4)) (h_3.1 151 6) h_3) fun _ h_17 => j_7 h_17) fun (j_16 : Option (Int32 × CH)) => (if (h_3.1 151 9) < (x1) then j_16 else (if (x2) < (h_3.1 151 9) then j_16 else j_7 h_3)))) fun (j_4 : CH → Option (Int32 × CH)) => (if (h.1 151 8) = ((nI 4)) then j_4 h else cl (f_X12_misplaced h) fun _ h_21 => j_4 h_21))
def f_X12_isWord (x1 : Int64) (h : CH) : Option Int32 :=
  (if (h.1 151 8) = ((nI 3)) then (if (lg_cmp (h.2 151 10) (x1)) = 0 then some (nI 1) else some (nI 0)) else some (nI 0))
def f_X12_after (x1 : Int64) (x3 : Int32) (x4 : Int32) (h : CH) : Option (Int32 × CH) :=
  clp (f_X12_isWord x1 h) fun v_1 => cl (f_X12_must v_1 h) fun _ h_2 => cl (f_X12_numeral x3 x4 h_2) fun v_3 h_4 => some ((v_3), h_4)
def f_X12_readPrinter  (h : CH) : Option (Unit × CH) :=
  jn (fun (h_1 : CH) => cl (f_X12_numeral ((nI 0)) ((nI 3)) h_1) fun v_3 h_4 => wrZ h_4 166 8 ((((nI 4)) * (h_1.1 151 27)) + (v_3)) ((nI 1)) fun h_5 => cl (f_X12_after 422726431347 ((nI 0)) ((nI 9)) h_5) fun v_6 h_7 => wrA h_7 162 8 ((((nI 4)) * (h_1.1 151 27)) + (v_3)) (v_6) fun h_8 => cl (f_X12_after 427071599731 ((nI 0)) ((nI 99)) h_8) fun v_9 h_10 => wrA h_10 163 8 ((((nI 4)) * (h_1.1 151 27)) + (v_3)) (v_9) fun h_11 => some ((), h_11)) fun (j_2 : CH → Option (Unit × CH)) => (if (h.1 151 8) = ((nI 4)) then (if (h.1 151 9) < ((nI 4)) then rdA h 166 8 ((((nI 4)) * (h.1 151 27)) + (h.1 151 9)) fun v_14 => (if (v_14) = 0 then j_2 h else cl (f_X12_fails ((nI 3)) (h.1 151 6) h) fun _ h_16 => j_2 h_16) else j_2 h) else j_2 h)
def f_X12_faceHere_L2 (h : CH) : Nat → Int32 → Option Int32
  | 0, _ => none
  | n + 1, x1 =>
    rdA h 155 2 (h.1 151 27) fun v_1 => (if (x1) < (v_1) then jn (f_X12_faceHere_L2 h n (x1 + (nI 1))) fun (j_3 : Option Int32) => (if (h.1 151 8) = ((nI 2)) then rdL h 167 32 ((((nI 16)) * (h.1 151 27)) + (x1)) fun v_5 => (if (lg_cmp (v_5) (h.2 151 10)) = 0 then some (x1) else j_3) else j_3) else some ((-1)))
def f_X12_faceHere  (h : CH) : Option Int32 :=
  f_X12_faceHere_L2 h FU ((nI 0))
def f_X12_aFace (x1 : Int32) (h : CH) : Option (Int32 × CH) :=
  clp (f_X12_isGood h) fun v_1 => (if (v_1) = 0 then some (((nI 0)), h) else clp (f_X12_faceHere h) fun v_3 => jn (fun (h_4 : CH) => clp (f_X12_isGood h_4) fun v_6 => jn (fun (h_7 : CH) => (if (v_3) < 0 then some (((nI 0)), h_7) else some ((v_3), h_7))) fun (j_8 : CH → Option (Int32 × CH)) => (if (v_6) = 0 then j_8 h_4 else cl (f_X12_goOn h_4) fun _ h_11 => j_8 h_11)) fun (j_5 : CH → Option (Int32 × CH)) => (if (h.1 151 8) = ((nI 2)) then (if (v_3) < 0 then cl (f_X12_fails ((nI 5)) (h.1 151 6) h) fun _ h_14 => j_5 h_14 else (if (((x1) >>> ((v_3) &&& 31)) &&& ((nI 1))) = ((nI 1)) then cl (f_X12_fails ((nI 3)) (h.1 151 6) h) fun _ h_16 => j_5 h_16 else j_5 h)) else cl (f_X12_misplaced h) fun _ h_17 => j_5 h_17))
def f_X12_readKnows  (h : CH) : Option (Unit × CH) :=
  cl (f_X12_aFace ((nI 0)) h) fun v_1 h_2 => rdA h_2 161 32 ((((nI 16)) * (h_2.1 151 27)) + (v_1)) fun v_3 => cl (f_X12_aFace ((v_3) ||| (((nI 1)) <<< ((v_1) &&& 31))) h_2) fun v_4 h_5 => clp (f_X12_isGood h_5) fun v_6 => (if (v_6) = 0 then some ((), h_5) else rdA h_5 161 32 ((((nI 16)) * (h_5.1 151 27)) + (v_1)) fun v_8 => wrA h_5 161 32 ((((nI 16)) * (h_5.1 151 27)) + (v_1)) ((v_8) ||| (((nI 1)) <<< ((v_4) &&& 31))) fun h_9 => rdA h_9 161 32 ((((nI 16)) * (h_9.1 151 27)) + (v_4)) fun v_10 => wrA h_9 161 32 ((((nI 16)) * (h_9.1 151 27)) + (v_4)) ((v_10) ||| (((nI 1)) <<< ((v_1) &&& 31))) fun h_11 => rdA h_11 156 2 (h_11.1 151 27) fun v_12 => wrA h_11 156 2 (h_11.1 151 27) ((v_12) + ((nI 1))) fun h_13 => some ((), h_13))
def f_X12_readFace_L120 (x1 : Int32) : Nat → Int32 → CH → Option (Unit × CH)
  | 0, _, _ => none
  | n + 1, x2, h =>
    rdA h 154 2 (h.1 151 27) fun v_16 => (if (x2) < (v_16) then cl (f_X12_numeral ((nI 0)) ((nI 99)) h) fun v_18 h_19 => wrA h_19 160 256 ((((nI 8)) * (x1)) + (x2)) (v_18) fun h_20 => f_X12_readFace_L120 x1 n (x2 + (nI 1)) h_20 else rdA h 155 2 (h.1 151 27) fun v_21 => wrA h 155 2 (h.1 151 27) ((v_21) + ((nI 1))) fun h_22 => some ((), h_22))
def f_X12_readFace  (h : CH) : Option (Unit × CH) :=
  rdA h 155 2 (h.1 151 27) fun v_1 => jn (fun (h_2 : CH) => wrL h_2 167 32 ((((nI 16)) * (h.1 151 27)) + (v_1)) (h_2.2 151 10) fun h_4 => jn (fun (s_5 : Int32) => cl (f_X12_must s_5 h_4) fun _ h_7 => cl (f_X12_after 1802071652 ((nI 0)) ((nI 3)) h_7) fun v_8 h_9 => wrA h_9 158 32 ((((nI 16)) * (h.1 151 27)) + (v_1)) (v_8) fun h_10 => cl (f_X12_after 431416239732 ((nI 0)) ((nI 9)) h_10) fun v_11 h_12 => wrA h_12 159 32 ((((nI 16)) * (h.1 151 27)) + (v_1)) (v_11) fun h_13 => clp (f_X12_isWord 7499639 h_13) fun v_14 => cl (f_X12_must v_14 h_13) fun _ h_15 => f_X12_readFace_L120 ((((nI 16)) * (h.1 151 27)) + (v_1)) FU ((nI 0)) h_15) fun (j_6 : Int32 → Option (Unit × CH)) => (if (h_4.1 151 8) = ((nI 2)) then j_6 ((nI 1)) else j_6 ((nI 0)))) fun (j_3 : CH → Option (Unit × CH)) => (if (h.1 151 8) = ((nI 2)) then clp (f_X12_faceHere h) fun v_25 => (if (v_25) < 0 then j_3 h else cl (f_X12_fails ((nI 3)) (h.1 151 6) h) fun _ h_27 => j_3 h_27) else cl (f_X12_misplaced h) fun _ h_28 => j_3 h_28)
def f_X12_isFull  (h : CH) : Option Int32 :=
  clp (f_X12_isWord 123623812527219 h) fun v_1 => (if (v_1) = 0 then clp (f_X12_isWord 1717658469 h) fun v_3 => (if (v_3) = 0 then clp (f_X12_isWord 461414299507 h) fun v_5 => (if (v_5) = 0 then clp (f_X12_isWord 1852137842 h) fun v_7 => (if (v_7) = 0 then clp (f_X12_isWord 31650994541847922 h) fun v_9 => (if (v_9) = 0 then some (nI 1) else some (nI 0)) else rdA h 165 2 (h.1 151 27) fun v_11 => rz (v_11) (v_11)) else rdA h 156 2 (h.1 151 27) fun v_12 => (if (v_12) = ((nI 20)) then some (nI 1) else some (nI 0))) else rdA h 155 2 (h.1 151 27) fun v_14 => (if (v_14) = ((nI 16)) then some (nI 1) else some (nI 0))) else rdA h 164 2 (h.1 151 27) fun v_16 => rz (v_16) (v_16))
def f_X12_readLine  (h : CH) : Option (Unit × CH) :=
  jn (fun (h_1 : CH) => clp (f_X12_isGood h_1) fun v_3 => (if (v_3) = 0 then some ((), h_1) else cl (f_X12_goOn h_1) fun _ h_5 => jn (fun (h_6 : CH) => jn (fun (h_8 : CH) => jn (fun (h_10 : CH) => jn (fun (h_12 : CH) => jn (fun (h_14 : CH) => jn (fun (h_16 : CH) => rdA h_16 165 2 (h_16.1 151 27) fun v_18 => jn (fun (s_19 : Int32) (s_20 : Int32) => wrZ h_16 165 2 (s_20) (s_19) fun h_22 => clp (f_X12_is ((nI 59)) h_22) fun v_23 => cl (f_X12_must v_23 h_22) fun _ h_24 => some ((), h_24)) fun (j_21 : Int32 → Int32 → Option (Unit × CH)) => jn (fun (s_25 : Int32) => j_21 ((nI 1)) (s_25)) fun (j_26 : Int32 → Option (Unit × CH)) => (if (v_18) = 0 then (if (lg_cmp (h.2 151 10) (1852137842)) = 0 then j_26 (h_16.1 151 27) else j_21 ((nI 0)) (h_16.1 151 27)) else j_26 (h_16.1 151 27))) fun (j_17 : CH → Option (Unit × CH)) => (if (lg_cmp (h.2 151 10) (1852137842)) = 0 then cl (f_X12_numeral ((nI 0)) ((nI 800)) h_14) fun v_30 h_31 => wrA h_31 157 2 (h_14.1 151 27) (v_30) fun h_32 => j_17 h_32 else j_17 h_14)) fun (j_15 : CH → Option (Unit × CH)) => (if (lg_cmp (h.2 151 10) (31650994541847922)) = 0 then cl (f_X12_readPrinter h_12) fun _ h_34 => j_15 h_34 else j_15 h_12)) fun (j_13 : CH → Option (Unit × CH)) => (if (lg_cmp (h.2 151 10) (461414299507)) = 0 then cl (f_X12_readKnows h_10) fun _ h_36 => j_13 h_36 else j_13 h_10)) fun (j_11 : CH → Option (Unit × CH)) => (if (lg_cmp (h.2 151 10) (1717658469)) = 0 then cl (f_X12_readFace h_8) fun _ h_38 => j_11 h_38 else j_11 h_8)) fun (j_9 : CH → Option (Unit × CH)) => jn (wrZ h_6 164 2 (h_6.1 151 27) ((nI 1)) fun h_40 => j_9 h_40) fun (j_39 : Option (Unit × CH)) => (if (lg_cmp (h.2 151 10) (123623812527219)) = 0 then j_39 else (if (lg_cmp (h.2 151 10) (1717658469)) = 0 then j_39 else j_9 h_6))) fun (j_7 : CH → Option (Unit × CH)) => (if (lg_cmp (h.2 151 10) (123623812527219)) = 0 then cl (f_X12_numeral ((nI 3)) ((nI 8)) h_5) fun v_44 h_45 => wrA h_45 154 2 (h_5.1 151 27) (v_44) fun h_46 => j_7 h_46 else j_7 h_5))) fun (j_2 : CH → Option (Unit × CH)) => jn (cl (f_X12_misplaced h) fun _ h_48 => j_2 h_48) fun (j_47 : Option (Unit × CH)) => (if (h.1 151 8) = ((nI 3)) then clp (f_X12_isFull h) fun v_50 => (if (v_50) = 0 then j_2 h else j_47) else j_47)
def f_X12_town_L88 (k106 : CH → Option (Int32 × CH)) : Nat → Int32 → CH → Option (Int32 × CH)
  | 0, _, _ => none
  | n + 1, x1, h =>
    (if (x1) < ((nI 3)) then wrA h 185 3 (x1) ((-1)) fun h_17 => f_X12_town_L88 k106 n (x1 + (nI 1)) h_17 else k106 h)
def f_X12_town_L23  : Nat → CH → Option (Int32 × CH)
  | 0, _ => none
  | n + 1, h =>
    clp (f_X12_isGood h) fun v_5 => jn (clp (f_X12_isGood h) fun v_7 => (if (v_7) = 0 then some (((-1)), h) else wrF h 151 26 (h.1 151 27) fun h_9 => wrF h_9 151 60 ((nI 0)) fun h_10 => wrF h_10 151 42 ((nI 0)) fun h_11 => wrF h_11 151 40 ((nI 0)) fun h_12 => wrF h_12 151 44 ((nI 0)) fun h_13 => wrG h_13 151 45 ((nI 0)) fun h_14 => f_X12_town_L88 (fun (h_15 : CH) => rdA h_15 155 2 (h_15.1 151 26) fun v_18 => some ((v_18), h_15)) FU ((nI 0)) h_14)) fun (j_6 : Option (Int32 × CH)) => (if (v_5) = 0 then j_6 else (if (h.1 151 8) = 0 then j_6 else cl (f_X12_readLine h) fun _ h_21 => f_X12_town_L23 n h_21))
def f_X12_town  (h : CH) : Option (Int32 × CH) :=
  cl (f_X12_takeTape ((nI 0)) h) fun _ h_1 => wrF h_1 151 27 (((nI 1)) - (h_1.1 151 26)) fun h_2 => cl (f_X12_clearBank h_2) fun _ h_3 => cl (f_X12_goOn h_3) fun _ h_4 => f_X12_town_L23 FU h_4
def f_X12_fault (x1 : Int32) (h : CH) : Option Int32 :=
  (if (x1) = 0 then some (h.1 151 4) else (if (x1) = ((nI 1)) then some (h.1 151 5) else some ((-1))))
def f_X12_pushE (x1 : Int32) (x2 : Int32) (h : CH) : Option (Unit × CH) :=
  wrA h 170 90 (h.1 151 39) (x1) fun h_1 => wrA h_1 171 90 (h_1.1 151 39) (x2) fun h_2 => wrF h_2 151 39 ((h_2.1 151 39) + ((nI 1))) fun h_3 => some ((), h_3)
def f_X12_rankHere  (h : CH) : Option Int32 :=
  clp (f_X12_isWord 6385252 h) fun v_1 => (if (v_1) = 0 then clp (f_X12_isWord 28530 h) fun v_3 => (if (v_3) = 0 then clp (f_X12_is ((nI 60)) h) fun v_5 => (if (v_5) = 0 then clp (f_X12_is ((nI 62)) h) fun v_7 => (if (v_7) = 0 then clp (f_X12_is ((nI 61)) h) fun v_9 => (if (v_9) = 0 then clp (f_X12_is ((nI 43)) h) fun v_11 => (if (v_11) = 0 then clp (f_X12_is ((nI 45)) h) fun v_13 => (if (v_13) = 0 then clp (f_X12_is ((nI 42)) h) fun v_15 => (if (v_15) = 0 then some ((nI 0)) else some ((nI 6))) else some ((nI 5))) else some ((nI 5))) else some ((nI 4))) else some ((nI 4))) else some ((nI 4))) else some ((nI 1))) else some ((nI 2)))
def f_X12_isCompared_L7 (h : CH) : Nat → Int32 → Option Int32
  | 0, _ => none
  | n + 1, x1 =>
    rdA h 170 90 (x1) fun v_1 => jn (f_X12_isCompared_L7 h n (x1 + (-1))) fun (j_2 : Option Int32) => (if (v_1) = ((nI 5)) then j_2 else rdA h 170 90 (x1) fun v_4 => (if (v_4) = ((nI 6)) then j_2 else rdA h 170 90 (x1) fun v_6 => (if (v_6) = ((nI 4)) then some (nI 1) else some (nI 0))))
def f_X12_isCompared  (h : CH) : Option Int32 :=
  f_X12_isCompared_L7 h FU ((h.1 151 39) - ((nI 1)))
def f_X12_emit (x1 : Int32) (x2 : Int32) (h : CH) : Option (Unit × CH) :=
  wrA h 168 800 (h.1 151 36) (x1) fun h_1 => wrA h_1 169 800 (h_1.1 151 36) (x2) fun h_2 => wrF h_2 151 36 ((h_2.1 151 36) + ((nI 1))) fun h_3 => some ((), h_3)
def f_X12_behindUnit_L23 (x1 : Int32) : Nat → CH → Option (Int32 × CH)
  | 0, _ => none
  | n + 1, h =>
    rdA h 170 90 ((h.1 151 39) - ((nI 1))) fun v_5 => jn ((if 0 < (x1) then jn (fun (s_8 : Int32) (s_9 : Int32) => cl (f_X12_pushE s_9 s_8 h) fun _ h_11 => cl (f_X12_goOn h_11) fun _ h_12 => some ((nI 1), h_12)) fun (j_10 : Int32 → Int32 → Option (Int32 × CH)) => (if (x1) = ((nI 2)) then j_10 ((nI 38)) (x1) else (if (x1) = ((nI 1)) then j_10 ((nI 124)) (x1) else clp (f_X12_sign (h.1 151 6) h) fun v_15 => j_10 (v_15) (x1))) else wrF h 151 39 ((h.1 151 39) - ((nI 1))) fun h_16 => rdA h_16 170 90 (h_16.1 151 39) fun v_17 => (if (v_17) = ((nI 7)) then wrF h_16 151 38 ((h_16.1 151 38) - ((nI 1))) fun h_19 => clp (f_X12_is ((nI 41)) h_19) fun v_20 => cl (f_X12_must v_20 h_19) fun _ h_21 => some ((nI 0), h_21) else some ((nI 0), h_16)))) fun (j_6 : Option (Int32 × CH)) => (if ((nI 6)) < (v_5) then j_6 else rdA h 170 90 ((h.1 151 39) - ((nI 1))) fun v_23 => (if (v_23) < (x1) then j_6 else wrF h 151 39 ((h.1 151 39) - ((nI 1))) fun h_25 => rdA h_25 170 90 (h_25.1 151 39) fun v_26 => jn (fun (h_27 : CH) => rdA h_27 171 90 (h_27.1 151 39) fun v_29 => cl (f_X12_emit v_29 ((nI 0)) h_27) fun _ h_30 => f_X12_behindUnit_L23 x1 n h_30) fun (j_28 : CH → Option (Int32 × CH)) => (if (v_26) = ((nI 3)) then wrF h_25 151 38 ((h_25.1 151 38) - ((nI 1))) fun h_32 => j_28 h_32 else j_28 h_25)))
def f_X12_behindUnit  (h : CH) : Option (Int32 × CH) :=
  clp (f_X12_rankHere h) fun v_1 => (if (v_1) = ((nI 4)) then clp (f_X12_isCompared h) fun v_3 => (if (v_3) = 0 then f_X12_behindUnit_L23 (v_1) FU h else cl (f_X12_misplaced h) fun _ h_33 => some ((nI 1), h_33)) else f_X12_behindUnit_L23 (v_1) FU h)
def f_X12_wordHere  (h : CH) : Option Int32 :=
  (if (h.1 151 47) = 0 then clp (f_X12_isWord 7566701 h) fun v_2 => (if (v_2) = 0 then clp (f_X12_isWord 1701078885 h) fun v_4 => (if (v_4) = 0 then clp (f_X12_isWord 1836020596 h) fun v_6 => (if (v_6) = 0 then clp (f_X12_isWord 465557353332 h) fun v_8 => (if (v_8) = 0 then clp (f_X12_isWord 24948 h) fun v_10 => (if (v_10) = 0 then some ((nI 0)) else some ((nI 97))) else some ((nI 113))) else some ((nI 109))) else some ((nI 101))) else some ((nI 115))) else clp (f_X12_isWord 6709618 h) fun v_12 => (if (v_12) = 0 then clp (f_X12_isWord 1802071652 h) fun v_14 => (if (v_14) = 0 then clp (f_X12_isWord 521391927923 h) fun v_16 => (if (v_16) = 0 then clp (f_X12_isWord 465624852596 h) fun v_18 => (if (v_18) = 0 then some ((nI 0)) else some ((nI 108))) else some ((nI 121))) else some ((nI 107))) else some ((nI 102))))
def f_X12_unit  (h : CH) : Option (Int32 × CH) :=
  rdA h 170 90 ((h.1 151 39) - ((nI 1))) fun v_1 => jn (fun (s_2 : Int32) => jn (fun (s_4 : Int32) => clp (f_X12_is ((nI 40)) h) fun v_6 => clp (f_X12_wordHere h) fun v_7 => jn (fun (h_8 : CH) => clp (f_X12_isGood h_8) fun v_10 => (if (v_10) = 0 then some ((nI 1), h_8) else jn (fun (s_12 : Int32) (s_13 : Int32) => wrF h_8 151 37 ((s_13) + (s_12)) fun h_15 => jn (fun (s_16 : Int32) => cl (f_X12_goOn h_15) fun _ h_18 => jn (jn (fun (s_20 : Int32) => cl (f_X12_pushE s_20 ((nI 126)) h_18) fun _ h_22 => wrF h_22 151 38 ((h_22.1 151 38) + ((nI 1))) fun h_23 => some ((nI 1), h_23)) fun (j_21 : Int32 → Option (Int32 × CH)) => (if (s_4) = 0 then j_21 ((nI 7)) else j_21 ((nI 3)))) fun (j_19 : Option (Int32 × CH)) => (if (s_4) = 0 then (if (v_6) = 0 then jn (fun (x5_27 : Int32) (h_28 : CH) => jn (fun (s_30 : Int32) => cl (f_X12_emit s_30 x5_27 h_28) fun _ h_32 => some ((nI 0), h_32)) fun (j_31 : Int32 → Option (Int32 × CH)) => (if (v_7) = 0 then j_31 ((nI 110)) else j_31 (v_7))) fun (j_29 : Int32 → CH → Option (Int32 × CH)) => (if (v_7) = ((nI 97)) then rdA h_18 154 2 (h_18.1 151 26) fun v_35 => cl (f_X12_numeral ((nI 0)) ((v_35) - ((nI 1))) h_18) fun v_36 h_37 => j_29 (v_36) h_37 else j_29 (s_16) h_18) else j_19) else j_19)) fun (j_17 : Int32 → Option (Int32 × CH)) => (if (v_7) = 0 then j_17 (h_15.1 151 9) else j_17 ((nI 0)))) fun (j_14 : Int32 → Int32 → Option (Int32 × CH)) => (if (s_4) = 0 then j_14 ((nI 1)) (h_8.1 151 37) else j_14 ((nI 0)) (h_8.1 151 37)))) fun (j_9 : CH → Option (Int32 × CH)) => jn (cl (f_X12_misplaced h) fun _ h_41 => j_9 h_41) fun (j_40 : Option (Int32 × CH)) => jn (jn ((if (h.1 151 38) = ((nI 7)) then j_40 else j_9 h)) fun (j_43 : Option (Int32 × CH)) => (if (s_4) = 0 then (if (v_6) = 0 then j_9 h else j_43) else j_43)) fun (j_42 : Option (Int32 × CH)) => (if (s_4) = 0 then jn ((if (h.1 151 37) = ((nI 40)) then j_40 else j_42)) fun (j_48 : Option (Int32 × CH)) => (if (v_7) = 0 then (if (h.1 151 8) = ((nI 4)) then j_48 else (if (v_6) = 0 then j_40 else j_48)) else j_48) else j_42)) fun (j_5 : Int32 → Option (Int32 × CH)) => jn (j_5 ((nI 0))) fun (j_53 : Option (Int32 × CH)) => (if (s_2) = 0 then j_53 else clp (f_X12_isWord 7237492 h) fun v_55 => (if (v_55) = 0 then j_53 else j_5 ((nI 1))))) fun (j_3 : Int32 → Option (Int32 × CH)) => jn (j_3 ((nI 1))) fun (j_57 : Option (Int32 × CH)) => (if ((nI 3)) < (v_1) then rdA h 170 90 ((h.1 151 39) - ((nI 1))) fun v_59 => (if (v_59) < ((nI 7)) then j_3 ((nI 0)) else j_57) else j_57)
def f_X12_e_L19  : Nat → Int32 → CH → Option (Unit × CH)
  | 0, _, _ => none
  | n + 1, x1, h =>
    clp (f_X12_isGood h) fun v_4 => (if (v_4) = 0 then some ((), h) else (if 0 < (h.1 151 39) then jn (fun (s_7 : Int32) (h_8 : CH) => f_X12_e_L19 n (s_7) h_8) fun (j_9 : Int32 → CH → Option (Unit × CH)) => (if (x1) = 0 then cl (f_X12_behindUnit h) fun v_11 h_12 => j_9 (v_11) h_12 else cl (f_X12_unit h) fun v_13 h_14 => j_9 (v_13) h_14) else some ((), h)))
def f_X12_e  (h : CH) : Option (Unit × CH) :=
  wrF h 151 39 ((nI 0)) fun h_1 => wrF h_1 151 38 ((nI 0)) fun h_2 => cl (f_X12_pushE ((nI 8)) ((nI 0)) h_2) fun _ h_3 => f_X12_e_L19 FU ((nI 1)) h_3
def f_X12_readSignName_L14  : Nat → Int32 → CH → Option (Unit × CH)
  | 0, _, _ => none
  | n + 1, x1, h =>
    jn (wrL h 175 6 (h.1 151 41) (h.2 151 10) fun h_4 => jn (fun (s_5 : Int32) => cl (f_X12_must s_5 h_4) fun _ h_7 => clp (f_X12_isWord 2003330414 h_7) fun v_8 => cl (f_X12_must v_8 h_7) fun _ h_9 => some ((), h_9)) fun (j_6 : Int32 → Option (Unit × CH)) => (if (h_4.1 151 8) = ((nI 2)) then j_6 ((nI 1)) else j_6 ((nI 0)))) fun (j_3 : Option (Unit × CH)) => (if (x1) < (h.1 151 41) then clp (f_X12_isGood h) fun v_12 => (if (v_12) = 0 then j_3 else rdL h 175 6 (x1) fun v_14 => jn (fun (h_15 : CH) => f_X12_readSignName_L14 n (x1 + (nI 1)) h_15) fun (j_16 : CH → Option (Unit × CH)) => (if (lg_cmp (v_14) (h.2 151 10)) = 0 then cl (f_X12_fails ((nI 3)) (h.1 151 6) h) fun _ h_18 => j_16 h_18 else j_16 h)) else j_3)
def f_X12_readSignName  (h : CH) : Option (Unit × CH) :=
  jn (fun (h_1 : CH) => f_X12_readSignName_L14 FU ((nI 0)) h_1) fun (j_2 : CH → Option (Unit × CH)) => (if (h.1 151 8) = ((nI 2)) then j_2 h else cl (f_X12_misplaced h) fun _ h_20 => j_2 h_20)
def f_X12_readRule  (h : CH) : Option (Unit × CH) :=
  clp (f_X12_isWord 6447474 h) fun v_1 => jn (fun (h_2 : CH) => clp (f_X12_isGood h_2) fun v_4 => (if (v_4) = 0 then some ((), h_2) else cl (f_X12_goOn h_2) fun _ h_6 => jn (fun (s_7 : Int32) => jn (fun (h_9 : CH) => clp (f_X12_isGood h_9) fun v_11 => (if (v_11) = 0 then some ((), h_9) else wrG h_9 151 47 (v_1) fun h_13 => wrA h_13 173 14 (s_7) (h_13.1 151 36) fun h_14 => cl (f_X12_e h_14) fun _ h_15 => wrA h_15 174 14 (s_7) (h_15.1 151 36) fun h_16 => jn (fun (s_17 : Int32) => wrG h_16 151 46 (s_17) fun h_19 => jn (fun (s_20 : Int32) (s_21 : Int32) => wrF h_19 151 41 ((s_21) + (s_20)) fun h_23 => wrF h_23 151 43 ((h_23.1 151 43) + ((nI 1))) fun h_24 => clp (f_X12_is ((nI 59)) h_24) fun v_25 => cl (f_X12_must v_25 h_24) fun _ h_26 => some ((), h_26)) fun (j_22 : Int32 → Int32 → Option (Unit × CH)) => (if (v_1) = 0 then j_22 ((nI 1)) (h_19.1 151 41) else j_22 ((nI 0)) (h_19.1 151 41))) fun (j_18 : Int32 → Option (Unit × CH)) => jn (j_18 ((nI 1))) fun (j_28 : Option (Unit × CH)) => (if (h_16.1 151 46) = 0 then (if (v_1) = 0 then j_18 ((nI 0)) else j_28) else j_28))) fun (j_10 : CH → Option (Unit × CH)) => (if (v_1) = 0 then cl (f_X12_readSignName h_6) fun _ h_32 => j_10 h_32 else j_10 h_6)) fun (j_8 : Int32 → Option (Unit × CH)) => (if (v_1) = 0 then j_8 (((nI 8)) + (h_6.1 151 41)) else j_8 ((nI 7))))) fun (j_3 : CH → Option (Unit × CH)) => jn (cl (f_X12_misplaced h) fun _ h_35 => j_3 h_35) fun (j_34 : Option (Unit × CH)) => jn ((if (v_1) = 0 then (if (h.1 151 41) = ((nI 6)) then j_34 else j_3 h) else (if (h.1 151 46) = 0 then j_3 h else j_34))) fun (j_36 : Option (Unit × CH)) => (if (v_1) = 0 then clp (f_X12_isWord 1936287598 h) fun v_41 => (if (v_41) = 0 then j_34 else j_36) else j_36)
def f_X12_rules_L81 (k126 : CH → Option (Int32 × CH)) : Nat → Int32 → CH → Option (Int32 × CH)
  | 0, _, _ => none
  | n + 1, x1, h =>
    (if (x1) < ((nI 400)) then rdA h 168 800 (((nI 400)) + (x1)) fun v_15 => wrA h 168 800 (x1) (v_15) fun h_16 => rdA h_16 169 800 (((nI 400)) + (x1)) fun v_17 => wrA h_16 169 800 (x1) (v_17) fun h_18 => f_X12_rules_L81 k126 n (x1 + (nI 1)) h_18 else k126 h)
def f_X12_rules_L128 (k178 : CH → Option (Int32 × CH)) : Nat → Int32 → CH → Option (Int32 × CH)
  | 0, _, _ => none
  | n + 1, x1, h =>
    (if (x1) < ((nI 7)) then rdA h 173 14 (((nI 7)) + (x1)) fun v_21 => wrA h 173 14 (x1) ((v_21) - ((nI 400))) fun h_22 => rdA h_22 174 14 (((nI 7)) + (x1)) fun v_23 => wrA h_22 174 14 (x1) ((v_23) - ((nI 400))) fun h_24 => f_X12_rules_L128 k178 n (x1 + (nI 1)) h_24 else k178 h)
def f_X12_rules_L49  : Nat → CH → Option (Int32 × CH)
  | 0, _ => none
  | n + 1, h =>
    clp (f_X12_isGood h) fun v_9 => jn (clp (f_X12_isGood h) fun v_11 => (if (v_11) = 0 then some (((-1)), h) else f_X12_rules_L81 (fun (h_13 : CH) => f_X12_rules_L128 (fun (h_19 : CH) => wrG h_19 151 45 (h_19.1 151 46) fun h_25 => wrF h_25 151 40 (h_25.1 151 41) fun h_26 => wrF h_26 151 44 (h_26.1 151 37) fun h_27 => wrF h_27 151 42 (h_27.1 151 43) fun h_28 => some ((h_28.1 151 42), h_28)) FU ((nI 0)) h_13) FU ((nI 0)) h)) fun (j_10 : Option (Int32 × CH)) => (if (v_9) = 0 then j_10 else (if (h.1 151 8) = 0 then j_10 else cl (f_X12_readRule h) fun _ h_31 => f_X12_rules_L49 n h_31))
def f_X12_rules  (h : CH) : Option (Int32 × CH) :=
  (if ((nI 800)) < (h.1 151 2) then some (((-2)), h) else cl (f_X12_takeTape ((nI 1)) h) fun _ h_2 => wrF h_2 151 36 ((nI 400)) fun h_3 => wrF h_3 151 37 ((nI 0)) fun h_4 => wrF h_4 151 41 ((nI 0)) fun h_5 => wrF h_5 151 43 ((nI 0)) fun h_6 => wrG h_6 151 46 ((nI 0)) fun h_7 => cl (f_X12_goOn h_7) fun _ h_8 => f_X12_rules_L49 FU h_8)
def f_X12_many  (h : CH) : Option Int32 :=
  rdA h 155 2 (h.1 151 26) fun v_1 => some (v_1)
def f_X12_isIn (x0 : Int32) (x1 : Int32) (x2 : Int32) (h : CH) : Option Int32 :=
  (if (x0) < (x1) then some (nI 0) else (if (x2) < (x0) then some (nI 0) else some (nI 1)))
def f_X12_isFace (x1 : Int32) (h : CH) : Option Int32 :=
  clp (f_X12_many h) fun v_1 => clp (f_X12_isIn x1 ((nI 0)) ((v_1) - ((nI 1))) h) fun v_2 => rz (v_2) (v_2)
def f_X12_pointMany  (h : CH) : Option Int32 :=
  rdA h 154 2 (h.1 151 26) fun v_1 => some (v_1)
def f_X12_measureOf (x1 : Int32) (x2 : Int32) (x3 : Int32) (h : CH) : Option Int32 :=
  rdA h 159 32 ((((nI 16)) * (h.1 151 26)) + (x1)) fun v_1 => rdA h 160 256 ((((nI 8)) * ((((nI 16)) * (h.1 151 26)) + (x1))) + (x2)) fun v_2 => jn (fun (s_3 : Int32) (s_4 : Int32) => (if ((s_4) + (s_3)) < 0 then some ((nI 0)) else (if ((nI 99)) < ((s_4) + (s_3)) then some ((nI 99)) else some ((s_4) + (s_3))))) fun (j_5 : Int32 → Int32 → Option Int32) => (if ((x2) - (x2) / ((nI 2)) * ((nI 2))) = 0 then j_5 (((v_1) * (x3)) / ((nI 10))) (v_2) else j_5 (-(((v_1) * (x3)) / ((nI 10)))) (v_2))
def f_X12_face (x1 : Int32) (x2 : Int32) (x3 : Int32) (h : CH) : Option Int32 :=
  clp (f_X12_isFace x1 h) fun v_1 => (if (v_1) = 0 then some ((-1)) else clp (f_X12_pointMany h) fun v_3 => clp (f_X12_isIn x2 ((nI 0)) ((v_3) - ((nI 1))) h) fun v_4 => (if (v_4) = 0 then some ((-1)) else clp (f_X12_isIn x3 ((nI 0)) ((nI 60)) h) fun v_6 => (if (v_6) = 0 then some ((-1)) else clp (f_X12_measureOf x1 x2 x3 h) fun v_8 => some (v_8))))
def f_X12_sizeOf (x0 : Int32) (h : CH) : Option Int32 :=
  (if (x0) < 0 then some (-(x0)) else some (x0))
def f_X12_far_L45 (x1 : Int32) (x2 : Int32) (x3 : Int32) (x4 : Int32) (h : CH) : Nat → Int32 → Int32 → Option Int32
  | 0, _, _ => none
  | n + 1, x5, x6 =>
    clp (f_X12_pointMany h) fun v_9 => (if (x6) < (v_9) then clp (f_X12_measureOf x1 x6 x2 h) fun v_11 => clp (f_X12_measureOf x3 x6 x4 h) fun v_12 => clp (f_X12_sizeOf ((v_11) - (v_12)) h) fun v_13 => f_X12_far_L45 x1 x2 x3 x4 h n ((x5) + (v_13)) (x6 + (nI 1)) else some (x5))
def f_X12_far (x1 : Int32) (x2 : Int32) (x3 : Int32) (x4 : Int32) (h : CH) : Option Int32 :=
  clp (f_X12_isFace x1 h) fun v_1 => (if (v_1) = 0 then some ((-1)) else clp (f_X12_isFace x3 h) fun v_3 => (if (v_3) = 0 then some ((-1)) else clp (f_X12_isIn x2 ((nI 0)) ((nI 60)) h) fun v_5 => (if (v_5) = 0 then some ((-1)) else clp (f_X12_isIn x4 ((nI 0)) ((nI 60)) h) fun v_7 => (if (v_7) = 0 then some ((-1)) else f_X12_far_L45 (x1) (x2) (x3) (x4) h FU ((nI 0)) ((nI 0))))))
def f_X12_isWhen (x0 : Int32) (x1 : Int32) (h : CH) : Option Int32 :=
  clp (f_X12_isIn x0 ((nI 0)) ((nI 60)) h) fun v_1 => (if (v_1) = 0 then some (nI 0) else clp (f_X12_isIn x1 ((nI 0)) ((nI 9)) h) fun v_3 => (if (v_3) = 0 then some (nI 0) else some (nI 1)))
def f_X12_layMix_L3 (x1 : Int32) (x2 : Int32) (x3 : Int32) (x4 : Int32) : Nat → Int32 → CH → Option (Unit × CH)
  | 0, _, _ => none
  | n + 1, x5, h =>
    clp (f_X12_pointMany h) fun v_1 => (if (x5) < (v_1) then clp (f_X12_measureOf x1 x5 ((nI 0)) h) fun v_3 => clp (f_X12_measureOf x2 x5 ((nI 0)) h) fun v_4 => jn (fun (s_5 : Int32) (s_6 : Int32) => wrA h 176 8 (s_6) (s_5) fun h_8 => f_X12_layMix_L3 x1 x2 x3 x4 n (x5 + (nI 1)) h_8) fun (j_7 : Int32 → Int32 → Option (Unit × CH)) => (if (x4) < 0 then j_7 ((((v_3) * (x3)) + ((v_4) * (((nI 10)) - (x3)))) / ((nI 10))) (x5) else rdA h 162 8 ((((nI 4)) * (h.1 151 26)) + (x4)) fun v_10 => dvd ((v_10) + ((nI 1))) <| j_7 (((((v_3) * (x3)) + ((v_4) * (((nI 10)) - (x3)))) / ((nI 10))) - (((((v_3) * (x3)) + ((v_4) * (((nI 10)) - (x3)))) / ((nI 10))) - ((((v_3) * (x3)) + ((v_4) * (((nI 10)) - (x3)))) / ((nI 10))) / ((v_10) + ((nI 1))) * ((v_10) + ((nI 1))))) (x5)) else some ((), h))
def f_X12_layMix (x1 : Int32) (x2 : Int32) (x3 : Int32) (x4 : Int32) (h : CH) : Option (Unit × CH) :=
  f_X12_layMix_L3 (x1) (x2) (x3) (x4) FU ((nI 0)) h
def f_X12_lit (x0 : Int32) (x1 : Int32) (h : CH) : Option Int32 :=
  (if ((nI 99)) < ((x0) + (x1)) then some ((nI 99)) else some ((x0) + (x1)))
def f_X12_farLive_L6 (x1 : Int32) (x2 : Int32) (x3 : Int32) (h : CH) : Nat → Int32 → Int32 → Option Int32
  | 0, _, _ => none
  | n + 1, x4, x5 =>
    clp (f_X12_pointMany h) fun v_1 => (if (x5) < (v_1) then clp (f_X12_measureOf x1 x5 x2 h) fun v_3 => clp (f_X12_lit v_3 x3 h) fun v_4 => rdA h 176 8 (x5) fun v_5 => clp (f_X12_sizeOf ((v_4) - (v_5)) h) fun v_6 => f_X12_farLive_L6 x1 x2 x3 h n ((x4) + (v_6)) (x5 + (nI 1)) else some (x4))
def f_X12_farLive (x1 : Int32) (x2 : Int32) (x3 : Int32) (h : CH) : Option Int32 :=
  f_X12_farLive_L6 (x1) (x2) (x3) h FU ((nI 0)) ((nI 0))
def f_X12_two (x0 : Int32) (x1 : Int32) (x2 : Int32) (h : CH) : Option Int32 :=
  (if (x0) = (nI 38) then (if (x1) = 0 then some ((nI 0)) else (if (x2) = 0 then some ((nI 0)) else some ((nI 1)))) else (if (x0) = (nI 42) then some ((x1) * (x2)) else (if (x0) = (nI 43) then some ((x1) + (x2)) else (if (x0) = (nI 45) then some ((x1) - (x2)) else (if (x0) = (nI 60) then (if (x1) < (x2) then some ((nI 1)) else some ((nI 0))) else (if (x0) = (nI 61) then (if (x1) = (x2) then some ((nI 1)) else some ((nI 0))) else (if (x0) = (nI 62) then (if (x2) < (x1) then some ((nI 1)) else some ((nI 0))) else jn (some ((nI 1))) fun (j_13 : Option Int32) => (if (x1) = 0 then (if (x2) = 0 then some ((nI 0)) else j_13) else j_13))))))))
def f_X12_edgeOf_L4 (h : CH) : Nat → Int32 → Int32 → Option Int32
  | 0, _, _ => none
  | n + 1, x1, x2 =>
    clp (f_X12_pointMany h) fun v_1 => (if (x2) < (v_1) then rdA h 176 8 (x2) fun v_3 => rdA h 176 8 ((x2) - ((nI 1))) fun v_4 => clp (f_X12_sizeOf ((v_3) - (v_4)) h) fun v_5 => f_X12_edgeOf_L4 h n ((x1) + (v_5)) (x2 + (nI 1)) else some (x1))
def f_X12_edgeOf  (h : CH) : Option Int32 :=
  f_X12_edgeOf_L4 h FU ((nI 0)) ((nI 1))
def f_X12_endOf_L9 (x1 : Int32) (h : CH) : Nat → Int32 → Int32 → Option Int32
  | 0, _, _ => none
  | n + 1, x2, x3 =>
    clp (f_X12_pointMany h) fun v_2 => (if (x3) < (v_2) then jn (fun (x2_4 : Int32) => f_X12_endOf_L9 x1 h n (x2_4) (x3 + (nI 1))) fun (j_5 : Int32 → Option Int32) => jn (rdA h 176 8 (x3) fun v_7 => j_5 (v_7)) fun (j_6 : Option Int32) => (if (x1) = 0 then rdA h 176 8 (x3) fun v_9 => (if (v_9) < (x2) then j_6 else j_5 (x2)) else rdA h 176 8 (x3) fun v_11 => (if (x2) < (v_11) then j_6 else j_5 (x2))) else some (x2))
def f_X12_endOf (x1 : Int32) (h : CH) : Option Int32 :=
  rdA h 176 8 ((nI 0)) fun v_1 => f_X12_endOf_L9 (x1) h FU (v_1) ((nI 1))
def f_X12_sumOf_L4 (h : CH) : Nat → Int32 → Int32 → Option Int32
  | 0, _, _ => none
  | n + 1, x1, x2 =>
    clp (f_X12_pointMany h) fun v_1 => (if (x2) < (v_1) then rdA h 176 8 (x2) fun v_3 => f_X12_sumOf_L4 h n ((x1) + (v_3)) (x2 + (nI 1)) else some (x1))
def f_X12_sumOf  (h : CH) : Option Int32 :=
  f_X12_sumOf_L4 h FU ((nI 0)) ((nI 0))
def f_X12_worth (x1 : Int32) (x2 : Int32) (h : CH) : Option Int32 :=
  (if (x1) = (nI 101) then clp (f_X12_edgeOf h) fun v_2 => some (v_2) else (if (x1) = (nI 102) then some (h.1 151 48) else (if (x1) = (nI 107) then some (h.1 151 49) else (if (x1) = (nI 108) then some (h.1 151 51) else (if (x1) = (nI 109) then clp (f_X12_endOf ((nI 1)) h) fun v_7 => some (v_7) else (if (x1) = (nI 110) then some (x2) else (if (x1) = (nI 113) then clp (f_X12_endOf ((nI 0)) h) fun v_10 => some (v_10) else (if (x1) = (nI 115) then clp (f_X12_sumOf h) fun v_12 => some (v_12) else (if (x1) = (nI 121) then some (h.1 151 50) else rdA h 176 8 (x2) fun v_14 => some (v_14))))))))))
def f_X12_holds_L9 (x1 : Int32) : Nat → Int32 → Int32 → CH → Option (Int32 × CH)
  | 0, _, _, _ => none
  | n + 1, x2, x3, h =>
    rdA h 174 14 (x1) fun v_2 => (if (x3) < (v_2) then rdA h 168 800 (x3) fun v_4 => jn (fun (x2_5 : Int32) (h_6 : CH) => f_X12_holds_L9 x1 n (x2_5) (x3 + (nI 1)) h_6) fun (j_7 : Int32 → CH → Option (Int32 × CH)) => (if (v_4) = ((nI 126)) then rdA h 172 70 ((x2) - ((nI 1))) fun v_9 => jn (fun (s_10 : Int32) (s_11 : Int32) => wrA h 172 70 (s_11) (s_10) fun h_13 => j_7 (x2) h_13) fun (j_12 : Int32 → Int32 → Option (Int32 × CH)) => (if (v_9) = 0 then j_12 ((nI 1)) ((x2) - ((nI 1))) else j_12 ((nI 0)) ((x2) - ((nI 1)))) else clp (f_X12_isLetter v_4 h) fun v_15 => (if (v_15) = 0 then rdA h 172 70 ((x2 + (-1)) - ((nI 1))) fun v_17 => rdA h 172 70 (x2 + (-1)) fun v_18 => clp (f_X12_two v_4 v_17 v_18 h) fun v_19 => wrA h 172 70 ((x2 + (-1)) - ((nI 1))) (v_19) fun h_20 => j_7 (x2 + (-1)) h_20 else rdA h 169 800 (x3) fun v_21 => clp (f_X12_worth v_4 v_21 h) fun v_22 => wrA h 172 70 (x2) (v_22) fun h_23 => j_7 (x2 + (nI 1)) h_23)) else rdA h 172 70 ((nI 0)) fun v_24 => (if (v_24) = 0 then some ((nI 0), h) else some ((nI 1), h)))
def f_X12_holds (x1 : Int32) (h : CH) : Option (Int32 × CH) :=
  rdA h 173 14 (x1) fun v_1 => f_X12_holds_L9 (x1) FU ((nI 0)) (v_1) h
def f_X12_isPass (x1 : Int32) (x2 : Int32) (x3 : Int32) (h : CH) : Option (Int32 × CH) :=
  clp (f_X12_farLive x1 x2 x3 h) fun v_1 => wrF h 151 48 (v_1) fun h_2 => rdA h_2 158 32 ((((nI 16)) * (h_2.1 151 26)) + (x1)) fun v_3 => wrF h_2 151 49 (v_3) fun h_4 => wrF h_4 151 50 (x2) fun h_5 => wrF h_5 151 51 (x3) fun h_6 => (if (h_6.1 151 45) = 0 then (if (h_6.1 151 48) < ((nI 40)) then some ((nI 1), h_6) else some ((nI 0), h_6)) else cl (f_X12_holds ((nI 0)) h_6) fun v_9 h_10 => rz (v_9) ((v_9), h_10))
def f_X12_isPassOf (x1 : Int32) (x2 : Int32) (x3 : Int32) (x4 : Int32) (h : CH) : Option (Int32 × CH) :=
  cl (f_X12_layMix x2 x2 ((nI 10)) ((-1)) h) fun _ h_1 => cl (f_X12_isPass x1 x3 x4 h_1) fun v_2 h_3 => rz (v_2) ((v_2), h_3)
def f_X12_passes (x1 : Int32) (x2 : Int32) (x3 : Int32) (x4 : Int32) (h : CH) : Option (Int32 × CH) :=
  clp (f_X12_isFace x1 h) fun v_1 => jn (some (((-1)), h)) fun (j_2 : Option (Int32 × CH)) => (if (v_1) = 0 then j_2 else clp (f_X12_isFace x2 h) fun v_4 => (if (v_4) = 0 then j_2 else clp (f_X12_isWhen x3 x4 h) fun v_6 => (if (v_6) = 0 then j_2 else cl (f_X12_isPassOf x1 x2 x3 x4 h) fun v_8 h_9 => (if (v_8) = 0 then some (((nI 0)), h_9) else some (((nI 1)), h_9)))))
def f_X12_isMix (x1 : Int32) (x2 : Int32) (x3 : Int32) (h : CH) : Option Int32 :=
  clp (f_X12_isFace x1 h) fun v_1 => (if (v_1) = 0 then some (nI 0) else clp (f_X12_isFace x2 h) fun v_3 => (if (v_3) = 0 then some (nI 0) else (if (x1) = (x2) then some (nI 0) else clp (f_X12_isIn x3 ((nI 0)) ((nI 10)) h) fun v_6 => (if (v_6) = 0 then some (nI 0) else some (nI 1)))))
def f_X12_isPrinterNo (x0 : Int32) (h : CH) : Option Int32 :=
  clp (f_X12_isIn x0 ((-1)) ((nI 3)) h) fun v_1 => rz (v_1) (v_1)
def f_X12_mix (x1 : Int32) (x2 : Int32) (x3 : Int32) (x4 : Int32) (x5 : Int32) (h : CH) : Option (Int32 × CH) :=
  clp (f_X12_isMix x1 x2 x3 h) fun v_1 => (if (v_1) = 0 then some (((-1)), h) else clp (f_X12_isPrinterNo x4 h) fun v_3 => (if (v_3) = 0 then some (((-1)), h) else clp (f_X12_pointMany h) fun v_5 => clp (f_X12_isIn x5 ((nI 0)) ((v_5) - ((nI 1))) h) fun v_6 => (if (v_6) = 0 then some (((-1)), h) else cl (f_X12_layMix x1 x2 x3 x4 h) fun _ h_8 => rdA h_8 176 8 (x5) fun v_9 => some ((v_9), h_8))))
def f_X12_both (x1 : Int32) (x2 : Int32) (x3 : Int32) (x4 : Int32) (x5 : Int32) (h : CH) : Option (Int32 × CH) :=
  clp (f_X12_isMix x1 x2 x3 h) fun v_1 => (if (v_1) = 0 then some (((-1)), h) else clp (f_X12_isWhen x4 x5 h) fun v_3 => (if (v_3) = 0 then some (((-1)), h) else cl (f_X12_layMix x1 x2 x3 ((-1)) h) fun _ h_5 => cl (f_X12_isPass x1 x4 x5 h_5) fun v_6 h_7 => jn (fun (s_8 : Int32) => cl (f_X12_isPass x2 x4 x5 h_7) fun v_10 h_11 => jn (fun (s_12 : Int32) (s_13 : Int32) => some (((s_13) + (s_12)), h_11)) fun (j_14 : Int32 → Int32 → Option (Int32 × CH)) => (if (v_10) = 0 then j_14 ((nI 0)) (s_8) else j_14 ((nI 2)) (s_8))) fun (j_9 : Int32 → Option (Int32 × CH)) => (if (v_6) = 0 then j_9 ((nI 0)) else j_9 ((nI 1)))))
def f_X12_bestShare_L9 (x1 : Int32) (x2 : Int32) (x3 : Int32) (x4 : Int32) : Nat → Int32 → Int32 → Int32 → CH → Option (Int32 × CH)
  | 0, _, _, _, _ => none
  | n + 1, x5, x6, x7, h =>
    (if ((nI 10)) < (x7) then some ((x5), h) else cl (f_X12_layMix x1 x2 x7 ((-1)) h) fun _ h_2 => cl (f_X12_isPass x1 x3 x4 h_2) fun v_3 h_4 => jn (fun (x5_5 : Int32) (x6_6 : Int32) (h_7 : CH) => f_X12_bestShare_L9 x1 x2 x3 x4 n (x5_5) (x6_6) (x7 + (nI 1)) h_7) fun (j_8 : Int32 → Int32 → CH → Option (Int32 × CH)) => (if (v_3) = 0 then j_8 (x5) (x6) h_4 else cl (f_X12_isPass x2 x3 x4 h_4) fun v_10 h_11 => (if (v_10) = 0 then j_8 (x5) (x6) h_11 else clp (f_X12_farLive x1 x3 x4 h_11) fun v_13 => clp (f_X12_farLive x2 x3 x4 h_11) fun v_14 => jn (fun (s_15 : Int32) => jn (j_8 (x7) (s_15) h_11) fun (j_17 : Option (Int32 × CH)) => (if (x5) < 0 then j_17 else (if (s_15) < (x6) then j_17 else j_8 (x5) (x6) h_11))) fun (j_16 : Int32 → Option (Int32 × CH)) => (if (v_14) < (v_13) then j_16 (v_13) else j_16 (v_14)))))
def f_X12_bestShare (x1 : Int32) (x2 : Int32) (x3 : Int32) (x4 : Int32) (h : CH) : Option (Int32 × CH) :=
  f_X12_bestShare_L9 (x1) (x2) (x3) (x4) FU ((-1)) ((nI 0)) ((nI 0)) h
def f_X12_able (x1 : Int32) (x2 : Int32) (x3 : Int32) (x4 : Int32) (h : CH) : Option (Int32 × CH) :=
  clp (f_X12_isFace x1 h) fun v_1 => (if (v_1) = 0 then some (((-1)), h) else clp (f_X12_isFace x2 h) fun v_3 => (if (v_3) = 0 then some (((-1)), h) else (if (x1) < (x2) then clp (f_X12_isWhen x3 x4 h) fun v_6 => (if (v_6) = 0 then some (((-1)), h) else cl (f_X12_bestShare x1 x2 x3 x4 h) fun v_8 h_9 => some ((v_8), h_9)) else some (((-1)), h))))
def f_X12_pairs_L30 (x1 : Int32) (x2 : Int32) (x4 : Int32) (k66 : Int32 → CH → Option (Int32 × CH)) : Nat → Int32 → Int32 → CH → Option (Int32 × CH)
  | 0, _, _, _ => none
  | n + 1, x3, x5, h =>
    clp (f_X12_many h) fun v_7 => (if (x5) < (v_7) then cl (f_X12_bestShare x4 x5 x1 x2 h) fun v_9 h_10 => jn (fun (s_11 : Int32) (s_12 : Int32) => f_X12_pairs_L30 x1 x2 x4 k66 n ((s_12) + (s_11)) (x5 + (nI 1)) h_10) fun (j_13 : Int32 → Int32 → Option (Int32 × CH)) => (if (v_9) < 0 then j_13 ((nI 0)) (x3) else j_13 ((nI 1)) (x3)) else k66 (x3) h)
def f_X12_pairs_L15 (x1 : Int32) (x2 : Int32) : Nat → Int32 → Int32 → CH → Option (Int32 × CH)
  | 0, _, _, _ => none
  | n + 1, x3, x4, h =>
    clp (f_X12_many h) fun v_3 => (if (x4) < (v_3) then f_X12_pairs_L30 (x1) (x2) (x4) (fun (x3_5 : Int32) (h_6 : CH) => f_X12_pairs_L15 x1 x2 n (x3_5) (x4 + (nI 1)) h_6) FU (x3) ((x4) + ((nI 1))) h else some ((x3), h))
def f_X12_pairs (x1 : Int32) (x2 : Int32) (h : CH) : Option (Int32 × CH) :=
  clp (f_X12_isWhen x1 x2 h) fun v_1 => (if (v_1) = 0 then some (((-1)), h) else f_X12_pairs_L15 (x1) (x2) FU ((nI 0)) ((nI 0)) h)
def f_X12_pair_L36 (x2 : Int32) (x3 : Int32) (x5 : Int32) (k66 : Int32 → CH → Option (Int32 × CH)) (k84 : Int32 → CH → Option (Int32 × CH)) : Nat → Int32 → Int32 → CH → Option (Int32 × CH)
  | 0, _, _, _ => none
  | n + 1, x4, x6, h =>
    clp (f_X12_many h) fun v_10 => (if (x6) < (v_10) then cl (f_X12_bestShare x5 x6 x2 x3 h) fun v_12 h_13 => jn (fun (x4_14 : Int32) => f_X12_pair_L36 x2 x3 x5 k66 k84 n (x4_14) (x6 + (nI 1)) h_13) fun (j_15 : Int32 → Option (Int32 × CH)) => (if (v_12) < 0 then j_15 (x4) else (if (x4) = 0 then k66 (x6) h_13 else j_15 (x4 + (-1)))) else k84 (x4) h)
def f_X12_pair_L16 (x2 : Int32) (x3 : Int32) : Nat → Int32 → Int32 → CH → Option (Int32 × CH)
  | 0, _, _, _ => none
  | n + 1, x4, x5, h =>
    clp (f_X12_many h) fun v_3 => (if (x5) < (v_3) then (if (x4) < 0 then some (((-1)), h) else f_X12_pair_L36 (x2) (x3) (x5) (fun (x6_6 : Int32) (h_7 : CH) => some (((((nI 100)) * (x5)) + (x6_6)), h_7)) (fun (x4_8 : Int32) (h_9 : CH) => f_X12_pair_L16 x2 x3 n (x4_8) (x5 + (nI 1)) h_9) FU (x4) ((x5) + ((nI 1))) h) else some (((-1)), h))
def f_X12_pair (x1 : Int32) (x2 : Int32) (x3 : Int32) (h : CH) : Option (Int32 × CH) :=
  clp (f_X12_isWhen x2 x3 h) fun v_1 => (if (v_1) = 0 then some (((-1)), h) else f_X12_pair_L16 (x2) (x3) FU (x1) ((nI 0)) h)
def f_X12_gate_L102 (x1 : Int32) (x2 : Int32) (x3 : Int32) (x4 : Int32) (x6 : Int32) (k152 : Int32 → CH → Option (Int32 × CH)) : Nat → Int32 → Int32 → CH → Option (Int32 × CH)
  | 0, _, _, _ => none
  | n + 1, x5, x7, h =>
    clp (f_X12_many h) fun v_18 => (if (x7) < (v_18) then (if (x1) = 0 then jn (fun (s_21 : Int32) (s_22 : Int32) (h_23 : CH) => f_X12_gate_L102 x1 x2 x3 x4 x6 k152 n ((s_22) + (s_21)) (x7 + (nI 1)) h_23) fun (j_24 : Int32 → Int32 → CH → Option (Int32 × CH)) => jn (fun (s_25 : Int32) (h_26 : CH) => j_24 ((nI 0)) (s_25) h_26) fun (j_27 : Int32 → CH → Option (Int32 × CH)) => (if (x7) = (x6) then j_27 (x5) h else cl (f_X12_isPassOf x6 x7 x3 x4 h) fun v_29 h_30 => (if (v_29) = 0 then j_27 (x5) h_30 else j_24 ((nI 1)) (x5) h_30)) else k152 (x5) h) else k152 (x5) h)
def f_X12_gate_L35 (x1 : Int32) (x2 : Int32) (x3 : Int32) (x4 : Int32) : Nat → Int32 → Int32 → CH → Option (Int32 × CH)
  | 0, _, _, _ => none
  | n + 1, x5, x6, h =>
    clp (f_X12_many h) fun v_7 => (if (x6) < (v_7) then jn (fun (x5_9 : Int32) (h_10 : CH) => f_X12_gate_L35 x1 x2 x3 x4 n (x5_9) (x6 + (nI 1)) h_10) fun (j_11 : Int32 → CH → Option (Int32 × CH)) => jn (jn (fun (x5_13 : Int32) (h_14 : CH) => f_X12_gate_L102 (x1) (x2) (x3) (x4) (x6) (fun (x5_16 : Int32) (h_17 : CH) => j_11 (x5_16) h_17) FU (x5_13) ((nI 0)) h_14) fun (j_15 : Int32 → CH → Option (Int32 × CH)) => (if (x1) = ((nI 1)) then cl (f_X12_isPassOf x6 x6 x3 x4 h) fun v_33 h_34 => jn (fun (s_35 : Int32) (s_36 : Int32) => j_15 ((s_36) + (s_35)) h_34) fun (j_37 : Int32 → Int32 → Option (Int32 × CH)) => (if (v_33) = 0 then j_37 ((nI 1)) (x5) else j_37 ((nI 0)) (x5)) else j_15 (x5) h)) fun (j_12 : Option (Int32 × CH)) => (if (x2) < 0 then j_12 else rdA h 158 32 ((((nI 16)) * (h.1 151 26)) + (x6)) fun v_40 => (if (v_40) = (x2) then j_12 else j_11 (x5) h)) else some ((x5), h))
def f_X12_gate (x1 : Int32) (x2 : Int32) (x3 : Int32) (x4 : Int32) (h : CH) : Option (Int32 × CH) :=
  clp (f_X12_isIn x1 ((nI 0)) ((nI 1)) h) fun v_1 => (if (v_1) = 0 then some (((-1)), h) else clp (f_X12_isIn x2 ((-1)) ((nI 3)) h) fun v_3 => (if (v_3) = 0 then some (((-1)), h) else clp (f_X12_isWhen x3 x4 h) fun v_5 => (if (v_5) = 0 then some (((-1)), h) else f_X12_gate_L35 (x1) (x2) (x3) (x4) FU ((nI 0)) ((nI 0)) h)))
def f_X12_twins_L27 (x1 : Int32) (x2 : Int32) (x4 : Int32) (k74 : Int32 → CH → Option (Int32 × CH)) : Nat → Int32 → Int32 → CH → Option (Int32 × CH)
  | 0, _, _, _ => none
  | n + 1, x3, x5, h =>
    (if (x5) < (x4) then cl (f_X12_isPassOf x4 x5 x1 x2 h) fun v_8 h_9 => jn (fun (s_10 : Int32) (s_11 : Int32) (h_12 : CH) => f_X12_twins_L27 x1 x2 x4 k74 n ((s_11) + (s_10)) (x5 + (nI 1)) h_12) fun (j_13 : Int32 → Int32 → CH → Option (Int32 × CH)) => jn (fun (s_14 : Int32) (h_15 : CH) => j_13 ((nI 0)) (s_14) h_15) fun (j_16 : Int32 → CH → Option (Int32 × CH)) => (if (v_8) = 0 then j_16 (x3) h_9 else cl (f_X12_isPassOf x5 x4 x1 x2 h_9) fun v_18 h_19 => (if (v_18) = 0 then j_16 (x3) h_19 else j_13 ((nI 1)) (x3) h_19)) else k74 (x3) h)
def f_X12_twins_L15 (x1 : Int32) (x2 : Int32) : Nat → Int32 → Int32 → CH → Option (Int32 × CH)
  | 0, _, _, _ => none
  | n + 1, x3, x4, h =>
    clp (f_X12_many h) fun v_3 => (if (x4) < (v_3) then f_X12_twins_L27 (x1) (x2) (x4) (fun (x3_5 : Int32) (h_6 : CH) => f_X12_twins_L15 x1 x2 n (x3_5) (x4 + (nI 1)) h_6) FU (x3) ((nI 0)) h else some ((x3), h))
def f_X12_twins (x1 : Int32) (x2 : Int32) (h : CH) : Option (Int32 × CH) :=
  clp (f_X12_isWhen x1 x2 h) fun v_1 => (if (v_1) = 0 then some (((-1)), h) else f_X12_twins_L15 (x1) (x2) FU ((nI 0)) ((nI 0)) h)
def f_X12_until_L20 (x1 : Int32) (x2 : Int32) : Nat → Int32 → CH → Option (Int32 × CH)
  | 0, _, _ => none
  | n + 1, x3, h =>
    (if ((nI 60)) < (x3) then some (((-1)), h) else cl (f_X12_isPassOf x1 x1 x3 x2 h) fun v_6 h_7 => (if (v_6) = 0 then some ((x3), h_7) else f_X12_until_L20 x1 x2 n (x3 + (nI 1)) h_7))
def f_X12_until (x1 : Int32) (x2 : Int32) (h : CH) : Option (Int32 × CH) :=
  clp (f_X12_isFace x1 h) fun v_1 => (if (v_1) = 0 then some (((-1)), h) else clp (f_X12_isWhen ((nI 0)) x2 h) fun v_3 => (if (v_3) = 0 then some (((-1)), h) else f_X12_until_L20 (x1) (x2) FU ((nI 0)) h))
def f_X12_signsOf_L4  : Nat → Int32 → Int32 → CH → Option (Int32 × CH)
  | 0, _, _, _ => none
  | n + 1, x1, x2, h =>
    (if (x2) < (h.1 151 40) then cl (f_X12_holds (((nI 1)) + (x2)) h) fun v_2 h_3 => jn (fun (s_4 : Int32) (s_5 : Int32) => f_X12_signsOf_L4 n ((s_5) ||| (s_4)) (x2 + (nI 1)) h_3) fun (j_6 : Int32 → Int32 → Option (Int32 × CH)) => (if (v_2) = 0 then j_6 ((nI 0)) (x1) else j_6 (((nI 1)) <<< ((x2) &&& 31)) (x1)) else some ((x1), h))
def f_X12_signsOf  (h : CH) : Option (Int32 × CH) :=
  f_X12_signsOf_L4 FU ((nI 0)) ((nI 0)) h
def f_X12_signs (x1 : Int32) (x2 : Int32) (x3 : Int32) (x4 : Int32) (h : CH) : Option (Int32 × CH) :=
  clp (f_X12_isMix x1 x2 x3 h) fun v_1 => (if (v_1) = 0 then some (((-1)), h) else clp (f_X12_isPrinterNo x4 h) fun v_3 => (if (v_3) = 0 then some (((-1)), h) else cl (f_X12_layMix x1 x2 x3 x4 h) fun _ h_5 => cl (f_X12_signsOf h_5) fun v_6 h_7 => some ((v_6), h_7)))
def f_X12_common_L4 (h : CH) : Nat → Int32 → Int32 → Option Int32
  | 0, _, _ => none
  | n + 1, x2, x3 =>
    (if (x3) = 0 then some (x2) else dvd (x3) <| f_X12_common_L4 h n (x3) ((x2) - (x2) / (x3) * (x3)))
def f_X12_common (x0 : Int32) (x1 : Int32) (h : CH) : Option Int32 :=
  f_X12_common_L4 h FU (x0) (x1)
def f_X12_caught_L61 (x1 : Int32) (x2 : Int32) (x5 : Int32) (x6 : Int32) (k103 : Int32 → Int32 → CH → Option (Int32 × CH)) : Nat → Int32 → Int32 → Int32 → CH → Option (Int32 × CH)
  | 0, _, _, _, _ => none
  | n + 1, x3, x4, x7, h =>
    (if ((nI 9)) < (x7) then k103 (x3) (x4) h else cl (f_X12_layMix x5 x6 x7 x1 h) fun _ h_18 => cl (f_X12_signsOf h_18) fun v_19 h_20 => jn (fun (s_21 : Int32) (s_22 : Int32) => f_X12_caught_L61 x1 x2 x5 x6 k103 n ((s_22) + (s_21)) (x4 + (nI 1)) (x7 + (nI 1)) h_20) fun (j_23 : Int32 → Int32 → Option (Int32 × CH)) => (if (v_19) = 0 then j_23 ((nI 0)) (x3) else j_23 ((nI 1)) (x3)))
def f_X12_caught_L49 (x1 : Int32) (x2 : Int32) (x5 : Int32) (k109 : Int32 → Int32 → CH → Option (Int32 × CH)) : Nat → Int32 → Int32 → Int32 → CH → Option (Int32 × CH)
  | 0, _, _, _, _ => none
  | n + 1, x3, x4, x6, h =>
    clp (f_X12_many h) fun v_12 => (if (x6) < (v_12) then f_X12_caught_L61 (x1) (x2) (x5) (x6) (fun (x3_14 : Int32) (x4_15 : Int32) (h_16 : CH) => f_X12_caught_L49 x1 x2 x5 k109 n (x3_14) (x4_15) (x6 + (nI 1)) h_16) FU (x3) (x4) ((nI 1)) h else k109 (x3) (x4) h)
def f_X12_caught_L34 (x1 : Int32) (x2 : Int32) : Nat → Int32 → Int32 → Int32 → CH → Option (Int32 × CH)
  | 0, _, _, _, _ => none
  | n + 1, x3, x4, x5, h =>
    clp (f_X12_many h) fun v_7 => (if (x5) < (v_7) then f_X12_caught_L49 (x1) (x2) (x5) (fun (x3_9 : Int32) (x4_10 : Int32) (h_11 : CH) => f_X12_caught_L34 x1 x2 n (x3_9) (x4_10) (x5 + (nI 1)) h_11) FU (x3) (x4) ((x5) + ((nI 1))) h else clp (f_X12_common x3 x4 h) fun v_25 => (if (x2) = 0 then dvd (v_25) <| some (((x3) / (v_25)), h) else dvd (v_25) <| some (((x4) / (v_25)), h)))
def f_X12_caught (x1 : Int32) (x2 : Int32) (h : CH) : Option (Int32 × CH) :=
  clp (f_X12_isPrinterNo x1 h) fun v_1 => (if (v_1) = 0 then some (((-1)), h) else clp (f_X12_isIn x2 ((nI 0)) ((nI 1)) h) fun v_3 => (if (v_3) = 0 then some (((-1)), h) else clp (f_X12_many h) fun v_5 => (if (v_5) < ((nI 2)) then some (((-1)), h) else f_X12_caught_L34 (x1) (x2) FU ((nI 0)) ((nI 0)) ((nI 0)) h)))
def f_X12_paper (x1 : Int32) (x2 : Int32) (x3 : Int32) (x4 : Int32) (h : CH) : Option (Int32 × CH) :=
  clp (f_X12_isFace x1 h) fun v_1 => (if (v_1) = 0 then some (((-1)), h) else clp (f_X12_isFace x2 h) fun v_3 => (if (v_3) = 0 then some (((-1)), h) else clp (f_X12_isIn x3 ((nI 0)) ((nI 10)) h) fun v_5 => (if (v_5) = 0 then some (((-1)), h) else clp (f_X12_isIn x4 ((nI 0)) ((nI 6099)) h) fun v_7 => (if (v_7) = 0 then some (((-1)), h) else (if (((x4) / ((nI 10))) - ((x4) / ((nI 10))) / ((nI 10)) * ((nI 10))) < ((nI 4)) then (if (h.1 151 60) = ((nI 40)) then some (((-1)), h) else wrA h 178 40 (h.1 151 60) (x1) fun h_11 => wrA h_11 179 40 (h_11.1 151 60) (x2) fun h_12 => wrA h_12 180 40 (h_12.1 151 60) (x3) fun h_13 => wrA h_13 181 40 (h_13.1 151 60) (x4) fun h_14 => wrA h_14 182 40 (h_14.1 151 60) (h_14.1 151 61) fun h_15 => wrA h_15 183 40 (h_15.1 151 60) ((-1)) fun h_16 => wrF h_16 151 60 ((h_16.1 151 60) + ((nI 1))) fun h_17 => some (((h_17.1 151 60) - ((nI 1))), h_17)) else some (((-1)), h))))))
def f_X12_untell (x1 : Int32) (h : CH) : Option (Int32 × CH) :=
  clp (f_X12_isIn x1 ((nI 0)) ((h.1 151 60) - ((nI 1))) h) fun v_1 => (if (v_1) = 0 then some ((nI 0), h) else rdA h 183 40 (x1) fun v_3 => (if (v_3) < 0 then wrA h 183 40 (x1) (h.1 151 61) fun h_5 => some ((nI 1), h_5) else some ((nI 0), h)))
def f_X12_later (x1 : Int32) (h : CH) : Option (Int32 × CH) :=
  clp (f_X12_isIn x1 ((nI 0)) ((nI 1000)) h) fun v_1 => (if (v_1) = 0 then some (((-1)), h) else (if ((nI 100000)) < ((h.1 151 61) + (x1)) then some (((-1)), h) else wrF h 151 61 ((h.1 151 61) + (x1)) fun h_4 => some ((h_4.1 151 61), h_4)))
def f_X12_counts (x1 : Int32) (x2 : Int32) (h : CH) : Option Int32 :=
  clp (f_X12_isIn x1 ((nI 0)) ((h.1 151 60) - ((nI 1))) h) fun v_1 => (if (v_1) = 0 then some (nI 0) else rdA h 182 40 (x1) fun v_3 => (if (x2) < (v_3) then some (nI 0) else rdA h 183 40 (x1) fun v_5 => jn (some (nI 1)) fun (j_6 : Option Int32) => (if (v_5) < 0 then j_6 else rdA h 183 40 (x1) fun v_8 => (if (x2) < (v_8) then j_6 else some (nI 0)))))
def f_X12_printerOf (x1 : Int32) (h : CH) : Option Int32 :=
  rdA h 181 40 (x1) fun v_1 => some (((v_1) / ((nI 10))) - ((v_1) / ((nI 10))) / ((nI 10)) * ((nI 10)))
def f_X12_layPaper (x1 : Int32) (h : CH) : Option (Unit × CH) :=
  rdA h 178 40 (x1) fun v_1 => rdA h 179 40 (x1) fun v_2 => rdA h 180 40 (x1) fun v_3 => clp (f_X12_printerOf x1 h) fun v_4 => cl (f_X12_layMix v_1 v_2 v_3 v_4 h) fun _ h_5 => some ((), h_5)
def f_X12_putBeside_L2  : Nat → Int32 → CH → Option (Unit × CH)
  | 0, _, _ => none
  | n + 1, x1, h =>
    clp (f_X12_pointMany h) fun v_1 => (if (x1) < (v_1) then rdA h 176 8 (x1) fun v_3 => wrA h 177 8 (x1) (v_3) fun h_4 => f_X12_putBeside_L2 n (x1 + (nI 1)) h_4 else some ((), h))
def f_X12_putBeside  (h : CH) : Option (Unit × CH) :=
  f_X12_putBeside_L2 FU ((nI 0)) h
def f_X12_farBeside_L4 (h : CH) : Nat → Int32 → Int32 → Option Int32
  | 0, _, _ => none
  | n + 1, x1, x2 =>
    clp (f_X12_pointMany h) fun v_1 => (if (x2) < (v_1) then rdA h 176 8 (x2) fun v_3 => rdA h 177 8 (x2) fun v_4 => clp (f_X12_sizeOf ((v_3) - (v_4)) h) fun v_5 => f_X12_farBeside_L4 h n ((x1) + (v_5)) (x2 + (nI 1)) else some (x1))
def f_X12_farBeside  (h : CH) : Option Int32 :=
  f_X12_farBeside_L4 h FU ((nI 0)) ((nI 0))
def f_X12_leastBy_L7 (x1 : Int32) (x2 : Int32) : Nat → Int32 → Int32 → CH → Option (Int32 × CH)
  | 0, _, _, _ => none
  | n + 1, x3, x4, h =>
    (if ((nI 9)) < (x4) then some ((x3), h) else rdA h 178 40 (x1) fun v_2 => clp (f_X12_printerOf x1 h) fun v_3 => cl (f_X12_layMix v_2 x2 x4 v_3 h) fun _ h_4 => clp (f_X12_farBeside h_4) fun v_5 => jn (fun (x3_6 : Int32) (h_7 : CH) => f_X12_leastBy_L7 x1 x2 n (x3_6) (x4 + (nI 1)) h_7) fun (j_8 : Int32 → CH → Option (Int32 × CH)) => (if (v_5) < (x3) then wrF h_4 151 63 (x4) fun h_10 => j_8 (v_5) h_10 else j_8 (x3) h_4))
def f_X12_leastBy (x1 : Int32) (x2 : Int32) (h : CH) : Option (Int32 × CH) :=
  f_X12_leastBy_L7 (x1) (x2) FU ((nI 100000)) ((nI 1)) h
def f_X12_findBehind_L23 (x1 : Int32) : Nat → Int32 → CH → Option (Int32 × CH)
  | 0, _, _ => none
  | n + 1, x2, h =>
    clp (f_X12_many h) fun v_5 => (if (x2) < (v_5) then rdA h 178 40 (x1) fun v_7 => jn (fun (h_8 : CH) => f_X12_findBehind_L23 x1 n (x2 + (nI 1)) h_8) fun (j_9 : CH → Option (Int32 × CH)) => (if (x2) = (v_7) then j_9 h else cl (f_X12_leastBy x1 x2 h) fun v_11 h_12 => (if (v_11) < (h_12.1 151 64) then wrF h_12 151 62 (x2) fun h_14 => wrF h_14 151 64 (v_11) fun h_15 => j_9 h_15 else j_9 h_12)) else jn (fun (h_16 : CH) => (if (h_16.1 151 62) < 0 then some ((nI 0), h_16) else some ((nI 1), h_16))) fun (j_17 : CH → Option (Int32 × CH)) => (if (h.1 151 62) < 0 then j_17 h else cl (f_X12_leastBy x1 (h.1 151 62) h) fun v_20 h_21 => wrF h_21 151 64 (v_20) fun h_22 => j_17 h_22))
def f_X12_findBehind (x1 : Int32) (h : CH) : Option (Int32 × CH) :=
  cl (f_X12_layPaper x1 h) fun _ h_1 => cl (f_X12_putBeside h_1) fun _ h_2 => wrF h_2 151 62 ((-1)) fun h_3 => wrF h_3 151 64 ((nI 100000)) fun h_4 => f_X12_findBehind_L23 (x1) FU ((nI 0)) h_4
def f_X12_isTold_L17 (x1 : Int32) (x2 : Int32) : Nat → Int32 → CH → Option (Int32 × CH)
  | 0, _, _ => none
  | n + 1, x3, h =>
    clp (f_X12_many h) fun v_2 => (if (x3) < (v_2) then rdA h 178 40 (x1) fun v_4 => jn (fun (h_5 : CH) => f_X12_isTold_L17 x1 x2 n (x3 + (nI 1)) h_5) fun (j_6 : CH → Option (Int32 × CH)) => (if (x3) = (v_4) then j_6 h else (if (x3) = (h.1 151 62) then j_6 h else cl (f_X12_leastBy x1 x3 h) fun v_9 h_10 => (if (x2) < (v_9) then j_6 h_10 else some ((nI 0), h_10)))) else rdA h 178 40 (x1) fun v_12 => rdA h 178 40 (x1) fun v_13 => clp (f_X12_printerOf x1 h) fun v_14 => cl (f_X12_layMix v_12 v_13 ((nI 10)) v_14 h) fun _ h_15 => clp (f_X12_farBeside h_15) fun v_16 => (if (x2) < (v_16) then some ((nI 1), h_15) else some ((nI 0), h_15)))
def f_X12_isTold (x1 : Int32) (h : CH) : Option (Int32 × CH) :=
  rdA h 157 2 (h.1 151 26) fun v_1 => f_X12_isTold_L17 (x1) ((h.1 151 64) + (v_1)) FU ((nI 0)) h
def f_X12_behind (x1 : Int32) (x2 : Int32) (x3 : Int32) (h : CH) : Option (Int32 × CH) :=
  clp (f_X12_counts x1 x3 h) fun v_1 => (if (v_1) = 0 then some (((-1)), h) else clp (f_X12_isIn x2 ((nI 0)) ((nI 3)) h) fun v_3 => (if (v_3) = 0 then some (((-1)), h) else cl (f_X12_findBehind x1 h) fun v_5 h_6 => (if (v_5) = 0 then some (((-1)), h_6) else (if (x2) = 0 then some ((h_6.1 151 62), h_6) else (if (x2) = ((nI 1)) then some ((h_6.1 151 63), h_6) else (if (x2) = ((nI 2)) then some ((h_6.1 151 64), h_6) else cl (f_X12_isTold x1 h_6) fun v_11 h_12 => (if (v_11) = 0 then some (((nI 0)), h_12) else some (((nI 1)), h_12))))))))
def f_X12_hangs (x1 : Int32) (x2 : Int32) (h : CH) : Option Int32 :=
  rdA h 181 40 (x1) fun v_1 => rdA h 181 40 (x2) fun v_2 => jn (fun (s_3 : Int32) => jn (some (nI 1)) fun (j_5 : Option Int32) => (if (s_3) = 0 then rdA h 178 40 (x1) fun v_7 => rdA h 178 40 (x2) fun v_8 => (if (v_7) = (v_8) then j_5 else rdA h 178 40 (x1) fun v_10 => rdA h 161 32 ((((nI 16)) * (h.1 151 26)) + (v_10)) fun v_11 => rdA h 178 40 (x2) fun v_12 => (if (((v_11) >>> ((v_12) &&& 31)) &&& ((nI 1))) = ((nI 1)) then j_5 else some (nI 0))) else j_5)) fun (j_4 : Int32 → Option Int32) => jn (j_4 ((nI 0))) fun (j_14 : Option Int32) => (if ((v_1) - (v_1) / ((nI 100)) * ((nI 100))) = ((v_2) - (v_2) / ((nI 100)) * ((nI 100))) then rdA h 181 40 (x1) fun v_16 => rdA h 181 40 (x2) fun v_17 => clp (f_X12_sizeOf (((v_16) / ((nI 100))) - ((v_17) / ((nI 100)))) h) fun v_18 => (if ((nI 2)) < (v_18) then j_14 else j_4 ((nI 1))) else j_14)
def f_X12_layRing_L58 (x2 : Int32) (x5 : Int32) (k131 : Int32 → Int32 → CH → Option (Int32 × CH)) : Nat → Int32 → Int32 → Int32 → CH → Option (Int32 × CH)
  | 0, _, _, _, _ => none
  | n + 1, x3, x4, x6, h =>
    (if (x6) < (h.1 151 60) then rdA h 184 40 (x5) fun v_16 => (if (v_16) = 0 then clp (f_X12_counts x5 x2 h) fun v_18 => (if (v_18) = 0 then k131 (x3) (x4) h else rdA h 184 40 (x6) fun v_20 => jn (fun (x3_21 : Int32) (x4_22 : Int32) (h_23 : CH) => f_X12_layRing_L58 x2 x5 k131 n (x3_21) (x4_22) (x6 + (nI 1)) h_23) fun (j_24 : Int32 → Int32 → CH → Option (Int32 × CH)) => (if (v_20) = 0 then j_24 (x3) (x4) h else clp (f_X12_hangs x5 x6 h) fun v_26 => (if (v_26) = 0 then j_24 (x3) (x4) h else wrZ h 184 40 (x5) ((nI 1)) fun h_28 => j_24 (x3 + (nI 1)) ((nI 1)) h_28))) else k131 (x3) (x4) h) else k131 (x3) (x4) h)
def f_X12_layRing_L46 (x2 : Int32) (k137 : Int32 → Int32 → CH → Option (Int32 × CH)) : Nat → Int32 → Int32 → Int32 → CH → Option (Int32 × CH)
  | 0, _, _, _, _ => none
  | n + 1, x3, x4, x5, h =>
    (if (x5) < (h.1 151 60) then f_X12_layRing_L58 (x2) (x5) (fun (x3_12 : Int32) (x4_13 : Int32) (h_14 : CH) => f_X12_layRing_L46 x2 k137 n (x3_12) (x4_13) (x5 + (nI 1)) h_14) FU (x3) (x4) ((nI 0)) h else k137 (x3) (x4) h)
def f_X12_layRing_L35 (x2 : Int32) : Nat → Int32 → Int32 → CH → Option (Int32 × CH)
  | 0, _, _, _ => none
  | n + 1, x3, x4, h =>
    (if (x4) = 0 then some ((x3), h) else f_X12_layRing_L46 (x2) (fun (x3_8 : Int32) (x4_9 : Int32) (h_10 : CH) => f_X12_layRing_L35 x2 n (x3_8) (x4_9) h_10) FU (x3) ((nI 0)) ((nI 0)) h)
def f_X12_layRing_L2 (x1 : Int32) (x2 : Int32) : Nat → Int32 → CH → Option (Int32 × CH)
  | 0, _, _ => none
  | n + 1, x3, h =>
    (if (x3) < ((nI 40)) then jn (fun (s_2 : Int32) (s_3 : Int32) => wrZ h 184 40 (s_3) (s_2) fun h_5 => f_X12_layRing_L2 x1 x2 n (x3 + (nI 1)) h_5) fun (j_4 : Int32 → Int32 → Option (Int32 × CH)) => (if (x3) = (x1) then j_4 ((nI 1)) (x3) else j_4 ((nI 0)) (x3)) else f_X12_layRing_L35 (x2) FU ((nI 1)) ((nI 1)) h)
def f_X12_layRing (x1 : Int32) (x2 : Int32) (h : CH) : Option (Int32 × CH) :=
  f_X12_layRing_L2 (x1) (x2) FU ((nI 0)) h
def f_X12_isFirst_L9 (x1 : Int32) (h : CH) : Nat → Int32 → Option (Int32 × CH)
  | 0, _ => none
  | n + 1, x3 =>
    (if (x3) < (x1) then rdA h 184 40 (x3) fun v_4 => (if (v_4) = 0 then f_X12_isFirst_L9 x1 h n (x3 + (nI 1)) else some ((nI 0), h)) else some ((nI 1), h))
def f_X12_isFirst (x1 : Int32) (x2 : Int32) (h : CH) : Option (Int32 × CH) :=
  cl (f_X12_layRing x1 x2 h) fun v_1 h_2 => f_X12_isFirst_L9 (x1) h_2 FU ((nI 0))
def f_X12_rings_L22 (x1 : Int32) (x2 : Int32) : Nat → Int32 → Int32 → Int32 → Int32 → CH → Option (Int32 × CH)
  | 0, _, _, _, _, _ => none
  | n + 1, x3, x4, x5, x6, h =>
    (if (x6) < (h.1 151 60) then clp (f_X12_counts x6 x2 h) fun v_4 => jn (fun (x3_5 : Int32) (x4_6 : Int32) (x5_7 : Int32) (h_8 : CH) => f_X12_rings_L22 x1 x2 n (x3_5) (x4_6) (x5_7) (x6 + (nI 1)) h_8) fun (j_9 : Int32 → Int32 → Int32 → CH → Option (Int32 × CH)) => (if (v_4) = 0 then j_9 (x3) (x4) (x5) h else cl (f_X12_isFirst x6 x2 h) fun v_11 h_12 => (if (v_11) = 0 then j_9 (x3) (x4) (x5) h_12 else cl (f_X12_layRing x6 x2 h_12) fun v_14 h_15 => (if (x4) < (v_14) then j_9 (x3 + (nI 1)) (v_14) (x6) h_15 else j_9 (x3 + (nI 1)) (x4) (x5) h_15))) else (if (x1) = 0 then some ((x3), h) else (if (x1) = ((nI 1)) then some ((x4), h) else some ((x5), h))))
def f_X12_rings (x1 : Int32) (x2 : Int32) (h : CH) : Option (Int32 × CH) :=
  clp (f_X12_isIn x1 ((nI 0)) ((nI 2)) h) fun v_1 => (if (v_1) = 0 then some (((-1)), h) else f_X12_rings_L22 (x1) (x2) FU ((nI 0)) ((nI 0)) ((-1)) ((nI 0)) h)
def f_X12_ring (x1 : Int32) (x2 : Int32) (h : CH) : Option (Int32 × CH) :=
  clp (f_X12_counts x1 x2 h) fun v_1 => (if (v_1) = 0 then some (((-1)), h) else cl (f_X12_layRing x1 x2 h) fun v_3 h_4 => some ((v_3), h_4))
def f_X12_between_L39 (x2 : Int32) (x3 : Int32) (x4 : Int32) (h : CH) (k88 : Int32 → Option Int32) : Nat → Int32 → Int32 → Option Int32
  | 0, _, _ => none
  | n + 1, x5, x6 =>
    clp (f_X12_many h) fun v_7 => (if (x6) < (v_7) then jn (fun (s_9 : Int32) (s_10 : Int32) => f_X12_between_L39 x2 x3 x4 h k88 n ((s_10) ||| (s_9)) (x6 + (nI 1))) fun (j_11 : Int32 → Int32 → Option Int32) => (if (((x3) >>> ((x6) &&& 31)) &&& ((nI 1))) = ((nI 1)) then rdA h 161 32 ((((nI 16)) * (h.1 151 26)) + (x6)) fun v_13 => j_11 (v_13) (x5) else j_11 ((nI 0)) (x5)) else k88 (x5))
def f_X12_between_L25 (x2 : Int32) (h : CH) : Nat → Int32 → Int32 → Option Int32
  | 0, _, _ => none
  | n + 1, x3, x4 =>
    (if (((x3) >>> ((x2) &&& 31)) &&& ((nI 1))) = 0 then f_X12_between_L39 (x2) (x3) (x4) h (fun (x5_6 : Int32) => (if (x5_6) = (x3) then some ((-1)) else f_X12_between_L25 x2 h n (x5_6) (x4 + (nI 1)))) FU (x3) ((nI 0)) else some (x4))
def f_X12_between (x1 : Int32) (x2 : Int32) (h : CH) : Option Int32 :=
  clp (f_X12_isFace x1 h) fun v_1 => (if (v_1) = 0 then some ((-1)) else clp (f_X12_isFace x2 h) fun v_3 => (if (v_3) = 0 then some ((-1)) else f_X12_between_L25 (x2) h FU (((nI 1)) <<< ((x1) &&& 31)) ((nI 0))))
def f_X12_isShown (x1 : Int32) (x2 : Int32) (h : CH) : Option (Int32 × CH) :=
  clp (f_X12_counts x1 x2 h) fun v_1 => (if (v_1) = 0 then some ((nI 0), h) else rdA h 178 40 (x1) fun v_3 => rdA h 179 40 (x1) fun v_4 => (if (v_3) = (v_4) then some ((nI 0), h) else rdA h 180 40 (x1) fun v_6 => clp (f_X12_isIn v_6 ((nI 1)) ((nI 9)) h) fun v_7 => (if (v_7) = 0 then some ((nI 0), h) else cl (f_X12_layPaper x1 h) fun _ h_9 => cl (f_X12_signsOf h_9) fun v_10 h_11 => (if (v_10) = 0 then some ((nI 0), h_11) else some ((nI 1), h_11)))))
def f_X12_looks_L47 (x1 : Int32) (x2 : Int32) (x3 : Int32) (x4 : Int32) (x5 : Int32) (x6 : Int32) (x8 : Int32) (h : CH) (k93 : Int32 → Option (Int32 × CH)) : Nat → Int32 → Int32 → Option (Int32 × CH)
  | 0, _, _ => none
  | n + 1, x7, x9 =>
    (if (x9) < ((nI 4)) then jn (fun (s_8 : Int32) (s_9 : Int32) => f_X12_looks_L47 x1 x2 x3 x4 x5 x6 x8 h k93 n ((s_9) + (s_8)) (x9 + (nI 1))) fun (j_10 : Int32 → Int32 → Option (Int32 × CH)) => (if (((x6) >>> ((x9) &&& 31)) &&& ((nI 1))) = ((nI 1)) then rdA h 163 8 ((((nI 4)) * (h.1 151 26)) + (x9)) fun v_12 => j_10 (v_12) (x7) else j_10 ((nI 0)) (x7)) else k93 (x7))
def f_X12_looks_L96 (x1 : Int32) (x2 : Int32) (x3 : Int32) (x4 : Int32) (x5 : Int32) (x6 : Int32) (x7 : Int32) (k152 : Int32 → CH → Option (Int32 × CH)) : Nat → Int32 → Int32 → CH → Option (Int32 × CH)
  | 0, _, _, _ => none
  | n + 1, x8, x9, h =>
    (if (x9) < (h.1 151 60) then (if (x1) < (x7) then k152 (x8) h else clp (f_X12_printerOf x9 h) fun v_17 => jn (fun (s_18 : Int32) (s_19 : Int32) (h_20 : CH) => f_X12_looks_L96 x1 x2 x3 x4 x5 x6 x7 k152 n ((s_19) + (s_18)) (x9 + (nI 1)) h_20) fun (j_21 : Int32 → Int32 → CH → Option (Int32 × CH)) => jn (fun (s_22 : Int32) (h_23 : CH) => j_21 ((nI 0)) (s_22) h_23) fun (j_24 : Int32 → CH → Option (Int32 × CH)) => (if (((x6) >>> ((v_17) &&& 31)) &&& ((nI 1))) = ((nI 1)) then cl (f_X12_isShown x9 x3 h) fun v_26 h_27 => (if (v_26) = 0 then j_24 (x8) h_27 else j_21 ((nI 1)) (x8) h_27) else j_24 (x8) h)) else k152 (x8) h)
def f_X12_looks_L31 (x1 : Int32) (x2 : Int32) (x3 : Int32) : Nat → Int32 → Int32 → Int32 → CH → Option (Int32 × CH)
  | 0, _, _, _, _ => none
  | n + 1, x4, x5, x6, h =>
    (if (x6) < ((nI 16)) then f_X12_looks_L47 (x1) (x2) (x3) (x4) (x5) (x6) ((nI 0)) h (fun (x7_6 : Int32) => f_X12_looks_L96 (x1) (x2) (x3) (x4) (x5) (x6) (x7_6) (fun (x8_13 : Int32) (h_14 : CH) => jn (fun (x4_29 : Int32) (x5_30 : Int32) => f_X12_looks_L31 x1 x2 x3 n (x4_29) (x5_30) (x6 + (nI 1)) h_14) fun (j_31 : Int32 → Int32 → Option (Int32 × CH)) => (if (x1) < (x7_6) then j_31 (x4) (x5) else (if (x5) < (x8_13) then j_31 (x6) (x8_13) else j_31 (x4) (x5)))) FU ((nI 0)) ((nI 0)) h) FU ((nI 0)) ((nI 0)) else (if (x2) = 0 then some ((x4), h) else some ((x5), h)))
def f_X12_looks (x1 : Int32) (x2 : Int32) (x3 : Int32) (h : CH) : Option (Int32 × CH) :=
  clp (f_X12_isIn x1 ((nI 0)) ((nI 999)) h) fun v_1 => (if (v_1) = 0 then some (((-1)), h) else clp (f_X12_isIn x2 ((nI 0)) ((nI 1)) h) fun v_3 => (if (v_3) = 0 then some (((-1)), h) else f_X12_looks_L31 (x1) (x2) (x3) FU ((nI 0)) ((-1)) ((nI 0)) h))
def f_X12_isCost (x0 : Int32) (x1 : Int32) (h : CH) : Option Int32 :=
  clp (f_X12_isIn x0 ((nI 0)) ((nI 99)) h) fun v_1 => (if (v_1) = 0 then some (nI 0) else clp (f_X12_isIn x1 ((nI 0)) ((nI 99)) h) fun v_3 => (if (v_3) = 0 then some (nI 0) else some (nI 1)))
def f_X12_falseOf_L6 (x1 : Int32) (x2 : Int32) (x3 : Int32) (x4 : Int32) : Nat → Int32 → Int32 → CH → Option (Int32 × CH)
  | 0, _, _, _ => none
  | n + 1, x5, x6, h =>
    clp (f_X12_many h) fun v_1 => (if (x6) < (v_1) then jn (fun (x5_3 : Int32) (h_4 : CH) => f_X12_falseOf_L6 x1 x2 x3 x4 n (x5_3) (x6 + (nI 1)) h_4) fun (j_5 : Int32 → CH → Option (Int32 × CH)) => (if (x6) = (x1) then j_5 (x5) h else cl (f_X12_layMix x6 x6 ((nI 10)) ((-1)) h) fun _ h_7 => clp (f_X12_farLive x1 x3 x4 h_7) fun v_8 => jn (fun (s_9 : Int32) (s_10 : Int32) => j_5 ((s_10) + (s_9)) h_7) fun (j_11 : Int32 → Int32 → Option (Int32 × CH)) => (if (x2) < (v_8) then j_11 ((nI 0)) (x5) else j_11 ((nI 1)) (x5))) else some ((x5), h))
def f_X12_falseOf (x1 : Int32) (x2 : Int32) (x3 : Int32) (x4 : Int32) (h : CH) : Option (Int32 × CH) :=
  f_X12_falseOf_L6 (x1) (x2) (x3) (x4) FU ((nI 0)) ((nI 0)) h
def f_X12_isHeld (x1 : Int32) (x2 : Int32) (x3 : Int32) (x4 : Int32) (h : CH) : Option (Int32 × CH) :=
  cl (f_X12_layMix x1 x1 ((nI 10)) ((-1)) h) fun _ h_1 => clp (f_X12_farLive x1 x3 x4 h_1) fun v_2 => (if (x2) < (v_2) then some ((nI 1), h_1) else some ((nI 0), h_1))
def f_X12_costOf_L6 (x1 : Int32) (x2 : Int32) (x3 : Int32) (x4 : Int32) (x5 : Int32) : Nat → Int32 → Int32 → CH → Option (Int32 × CH)
  | 0, _, _, _ => none
  | n + 1, x6, x7, h =>
    clp (f_X12_many h) fun v_1 => (if (x7) < (v_1) then cl (f_X12_falseOf x7 x1 x4 x5 h) fun v_3 h_4 => cl (f_X12_isHeld x7 x1 x4 x5 h_4) fun v_5 h_6 => jn (fun (s_7 : Int32) (s_8 : Int32) (s_9 : Int32) => f_X12_costOf_L6 x1 x2 x3 x4 x5 n ((s_9) + ((s_8) + (s_7))) (x7 + (nI 1)) h_6) fun (j_10 : Int32 → Int32 → Int32 → Option (Int32 × CH)) => (if (v_5) = 0 then j_10 ((nI 0)) ((x2) * (v_3)) (x6) else j_10 (x3) ((x2) * (v_3)) (x6)) else some ((x6), h))
def f_X12_costOf (x1 : Int32) (x2 : Int32) (x3 : Int32) (x4 : Int32) (x5 : Int32) (h : CH) : Option (Int32 × CH) :=
  f_X12_costOf_L6 (x1) (x2) (x3) (x4) (x5) FU ((nI 0)) ((nI 0)) h
def f_X12_cost (x1 : Int32) (x2 : Int32) (x3 : Int32) (x4 : Int32) (x5 : Int32) (h : CH) : Option (Int32 × CH) :=
  clp (f_X12_isIn x1 ((nI 0)) ((nI 800)) h) fun v_1 => (if (v_1) = 0 then some (((-1)), h) else clp (f_X12_isCost x2 x3 h) fun v_3 => (if (v_3) = 0 then some (((-1)), h) else clp (f_X12_isWhen x4 x5 h) fun v_5 => (if (v_5) = 0 then some (((-1)), h) else cl (f_X12_costOf x1 x2 x3 x4 x5 h) fun v_7 h_8 => some ((v_7), h_8))))
def f_X12_bestBar_L37 (x1 : Int32) (x2 : Int32) (x3 : Int32) (x4 : Int32) : Nat → Int32 → Int32 → Int32 → CH → Option (Int32 × CH)
  | 0, _, _, _, _ => none
  | n + 1, x5, x6, x7, h =>
    (if ((nI 800)) < (x7) then some ((x5), h) else cl (f_X12_costOf x7 x1 x2 x3 x4 h) fun v_8 h_9 => jn (fun (x5_10 : Int32) (x6_11 : Int32) => f_X12_bestBar_L37 x1 x2 x3 x4 n (x5_10) (x6_11) (x7 + (nI 1)) h_9) fun (j_12 : Int32 → Int32 → Option (Int32 × CH)) => (if (v_8) < (x6) then j_12 (x7) (v_8) else j_12 (x5) (x6)))
def f_X12_bestBar (x1 : Int32) (x2 : Int32) (x3 : Int32) (x4 : Int32) (h : CH) : Option (Int32 × CH) :=
  clp (f_X12_isCost x1 x2 h) fun v_1 => (if (v_1) = 0 then some (((-1)), h) else clp (f_X12_isWhen x3 x4 h) fun v_3 => (if (v_3) = 0 then some (((-1)), h) else cl (f_X12_costOf ((nI 0)) x1 x2 x3 x4 h) fun v_5 h_6 => f_X12_bestBar_L37 (x1) (x2) (x3) (x4) FU ((nI 0)) (v_5) ((nI 1)) h_6))
def f_X12_kindBar_L20 (x1 : Int32) (x2 : Int32) (x3 : Int32) (x4 : Int32) (x5 : Int32) (k84 : Int32 → Int32 → CH → Option (Int32 × CH)) : Nat → Int32 → Int32 → Int32 → CH → Option (Int32 × CH)
  | 0, _, _, _, _ => none
  | n + 1, x6, x7, x8, h =>
    clp (f_X12_many h) fun v_5 => (if (x8) < (v_5) then rdA h 158 32 ((((nI 16)) * (h.1 151 26)) + (x8)) fun v_7 => jn (fun (x6_8 : Int32) (x7_9 : Int32) (h_10 : CH) => f_X12_kindBar_L20 x1 x2 x3 x4 x5 k84 n (x6_8) (x7_9) (x8 + (nI 1)) h_10) fun (j_11 : Int32 → Int32 → CH → Option (Int32 × CH)) => (if (v_7) = (x1) then cl (f_X12_isHeld x8 x5 x3 x4 h) fun v_13 h_14 => jn (fun (s_15 : Int32) (s_16 : Int32) => j_11 (x6 + (nI 1)) ((s_16) + (s_15)) h_14) fun (j_17 : Int32 → Int32 → Option (Int32 × CH)) => (if (v_13) = 0 then j_17 ((nI 0)) (x7) else j_17 ((nI 1)) (x7)) else j_11 (x6) (x7) h) else k84 (x6) (x7) h)
def f_X12_kindBar_L3 (x1 : Int32) (x2 : Int32) (x3 : Int32) (x4 : Int32) : Nat → Int32 → CH → Option (Int32 × CH)
  | 0, _, _ => none
  | n + 1, x5, h =>
    (if ((nI 800)) < (x5) then some (((-1)), h) else f_X12_kindBar_L20 (x1) (x2) (x3) (x4) (x5) (fun (x6_2 : Int32) (x7_3 : Int32) (h_4 : CH) => (if (x6_2) = 0 then some (((-1)), h_4) else (if ((x2) * (x6_2)) < ((x7_3) * ((nI 100))) then f_X12_kindBar_L3 x1 x2 x3 x4 n (x5 + (nI 1)) h_4 else some ((x5), h_4)))) FU ((nI 0)) ((nI 0)) ((nI 0)) h)
def f_X12_kindBar (x1 : Int32) (x2 : Int32) (x3 : Int32) (x4 : Int32) (h : CH) : Option (Int32 × CH) :=
  f_X12_kindBar_L3 (x1) (x2) (x3) (x4) FU ((nI 0)) h
def f_X12_fair_L72 (x1 : Int32) (x2 : Int32) (x3 : Int32) (x6 : Int32) (x7 : Int32) (k126 : Int32 → CH → Option (Int32 × CH)) : Nat → Int32 → Int32 → CH → Option (Int32 × CH)
  | 0, _, _, _ => none
  | n + 1, x5, x8, h =>
    clp (f_X12_many h) fun v_15 => (if (x8) < (v_15) then rdA h 158 32 ((((nI 16)) * (h.1 151 26)) + (x8)) fun v_17 => jn (fun (s_18 : Int32) (s_19 : Int32) (h_20 : CH) => f_X12_fair_L72 x1 x2 x3 x6 x7 k126 n ((s_19) + (s_18)) (x8 + (nI 1)) h_20) fun (j_21 : Int32 → Int32 → CH → Option (Int32 × CH)) => (if (v_17) = (x6) then cl (f_X12_falseOf x8 x7 x2 x3 h) fun v_23 h_24 => j_21 (v_23) (x5) h_24 else j_21 ((nI 0)) (x5) h) else k126 (x5) h)
def f_X12_fair_L52 (x1 : Int32) (x2 : Int32) (x3 : Int32) : Nat → Int32 → Int32 → CH → Option (Int32 × CH)
  | 0, _, _, _ => none
  | n + 1, x5, x6, h =>
    (if (x6) < ((nI 4)) then cl (f_X12_kindBar x6 x1 x2 x3 h) fun v_11 h_12 => f_X12_fair_L72 (x1) (x2) (x3) (x6) (v_11) (fun (x5_13 : Int32) (h_14 : CH) => f_X12_fair_L52 x1 x2 x3 n (x5_13) (x6 + (nI 1)) h_14) FU (x5) ((nI 0)) h_12 else some ((x5), h))
def f_X12_fair (x1 : Int32) (x2 : Int32) (x3 : Int32) (x4 : Int32) (h : CH) : Option (Int32 × CH) :=
  clp (f_X12_isIn x1 ((nI 0)) ((nI 100)) h) fun v_1 => (if (v_1) = 0 then some (((-1)), h) else clp (f_X12_isWhen x2 x3 h) fun v_3 => (if (v_3) = 0 then some (((-1)), h) else clp (f_X12_isIn x4 ((nI 0)) ((nI 4)) h) fun v_5 => (if (v_5) = 0 then some (((-1)), h) else (if (x4) < ((nI 4)) then cl (f_X12_kindBar x4 x1 x2 x3 h) fun v_8 h_9 => some ((v_8), h_9) else f_X12_fair_L52 (x1) (x2) (x3) FU ((nI 0)) ((nI 0)) h))))
def f_X12_measure_L17 (x1 : Int32) (x2 : Int32) (x4 : Int32) (h : CH) (k109 : Int32 → Option Int32) : Nat → Int32 → Int32 → Option Int32
  | 0, _, _ => none
  | n + 1, x3, x5 =>
    clp (f_X12_many h) fun v_4 => (if (x5) < (v_4) then jn (fun (x3_6 : Int32) => f_X12_measure_L17 x1 x2 x4 h k109 n (x3_6) (x5 + (nI 1))) fun (j_7 : Int32 → Option Int32) => (if (x4) = (x5) then j_7 (x3) else rdA h 158 32 ((((nI 16)) * (h.1 151 26)) + (x4)) fun v_9 => (if (v_9) = (x1) then rdA h 158 32 ((((nI 16)) * (h.1 151 26)) + (x5)) fun v_11 => (if (v_11) = (x2) then clp (f_X12_far x4 ((nI 0)) x5 ((nI 0)) h) fun v_13 => jn (fun (s_14 : Int32) => j_7 (s_14)) fun (j_15 : Int32 → Option Int32) => jn (j_15 (v_13)) fun (j_16 : Option Int32) => (if (x3) < 0 then j_16 else (if (v_13) < (x3) then j_16 else j_15 (x3))) else j_7 (x3)) else j_7 (x3))) else k109 (x3))
def f_X12_measure_L5 (x1 : Int32) (x2 : Int32) (h : CH) : Nat → Int32 → Int32 → Option Int32
  | 0, _, _ => none
  | n + 1, x3, x4 =>
    clp (f_X12_many h) fun v_1 => (if (x4) < (v_1) then f_X12_measure_L17 (x1) (x2) (x4) h (fun (x3_3 : Int32) => f_X12_measure_L5 x1 x2 h n (x3_3) (x4 + (nI 1))) FU (x3) ((nI 0)) else some (x3))
def f_X12_measure (x1 : Int32) (x2 : Int32) (h : CH) : Option Int32 :=
  f_X12_measure_L5 (x1) (x2) h FU ((-1)) ((nI 0))
