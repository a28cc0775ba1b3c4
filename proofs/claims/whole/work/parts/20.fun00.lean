/-! the methods as functions, by program -/
def f_X11_putOnTape_L3 (x1 : Int32) : Nat → Int32 → CH → Option (Unit × CH)
  | 0, _, _ => none
  | n + 1, x2, h =>
    (if (x2) < 0 then some ((), h) else jn (fun (h_2 : CH) => f_X11_putOnTape_L3 x1 n (x2 + (-8)) h_2) fun (j_3 : CH → Option (Unit × CH)) => (if (h.1 0 1) < ((nI 1600)) then wrB h 1 1600 (h.1 0 1) ((((x1).toUInt32 >>> ((x2).toUInt32 &&& Int32.toUInt32 31)).toInt32).toInt8.toInt32) fun h_5 => wrF h_5 0 1 ((h_5.1 0 1) + ((nI 1))) fun h_6 => j_3 h_6 else j_3 h))
def f_X11_putOnTape (x1 : Int32) (h : CH) : Option (Unit × CH) :=
  f_X11_putOnTape_L3 (x1) FU ((nI 24)) h
def f_X11_feed (x1 : Int32) (x2 : Int32) (x3 : Int32) (x4 : Int32) (x5 : Int32) (h : CH) : Option (Int32 × CH) :=
  (if ((nI 1600)) < ((h.1 0 1) + ((nI 20))) then some (((-1)), h) else cl (f_X11_putOnTape x1 h) fun _ h_2 => cl (f_X11_putOnTape x2 h_2) fun _ h_3 => cl (f_X11_putOnTape x3 h_3) fun _ h_4 => cl (f_X11_putOnTape x4 h_4) fun _ h_5 => cl (f_X11_putOnTape x5 h_5) fun _ h_6 => some ((h_6.1 0 1), h_6))
def f_X11_end (x1 : Int32) (h : CH) : Option (Int32 × CH) :=
  (if (x1) < 0 then some (((-1)), h) else (if (h.1 0 1) < (x1) then some (((-1)), h) else wrF h 0 1 (x1) fun h_3 => some ((x1), h_3)))
def f_X11_fault (x1 : Int32) (h : CH) : Option Int32 :=
  (if (x1) = (nI 0) then some (h.1 0 2) else (if (x1) = (nI 1) then some (h.1 0 3) else some ((-1))))
def f_X9_has_7 (x1 : Int32) (h : CH) : Option Int32 :=
  (if (x1) < 0 then some (nI 0) else (if (x1) < (h.1 7 2) then (if (x1) < ((nI 16)) then some (nI 1) else some (nI 0)) else some (nI 0)))
def f_X11_isYear (x0 : Int32) (h : CH) : Option Int32 :=
  (if (x0) < 0 then some (nI 0) else (if ((nI 60)) < (x0) then some (nI 0) else some (nI 1)))
def f_X9_measureIn_7 (x1 : Int32) (x2 : Int32) (x3 : Int32) (h : CH) : Option Int32 :=
  clp (f_X9_has_7 x1 h) fun v_1 => (if (v_1) = 0 then some ((nI 0)) else (if (x2) < 0 then some ((nI 0)) else (if (x2) < ((nI 8)) then rdA h 10 16 (x1) fun v_5 => rdQ 12 16 (x1) fun q_6 => rdA h q_6 8 (x2) fun v_7 => jn (fun (s_8 : Int32) (s_9 : Int32) => some (mx ((nI 0)) (mn ((nI 99)) ((s_9) + (s_8))))) fun (j_10 : Int32 → Int32 → Option Int32) => (if ((x2) - (x2) / ((nI 2)) * ((nI 2))) = 0 then j_10 (((v_5) * (x3)) / ((nI 10))) (v_7) else j_10 (-(((v_5) * (x3)) / ((nI 10)))) (v_7)) else some ((nI 0)))))
def f_X11_face (x1 : Int32) (x2 : Int32) (x3 : Int32) (h : CH) : Option Int32 :=
  clp (f_X9_has_7 x1 h) fun v_1 => (if (v_1) = 0 then some ((-1)) else (if (x2) < 0 then some ((-1)) else (if (x2) < (h.1 7 0) then clp (f_X11_isYear x3 h) fun v_5 => (if (v_5) = 0 then some ((-1)) else clp (f_X9_measureIn_7 x1 x2 x3 h) fun v_7 => some (v_7)) else some ((-1)))))
def f_X11_far_L45 (x1 : Int32) (x2 : Int32) (x3 : Int32) (x4 : Int32) (h : CH) : Nat → Int32 → Int32 → Option Int32
  | 0, _, _ => none
  | n + 1, x5, x6 =>
    (if (x6) < (h.1 7 0) then clp (f_X9_measureIn_7 x1 x6 x2 h) fun v_10 => clp (f_X9_measureIn_7 x3 x6 x4 h) fun v_11 => f_X11_far_L45 x1 x2 x3 x4 h n ((x5) + (ab ((v_10) - (v_11)))) (x6 + (nI 1)) else some (x5))
def f_X11_far (x1 : Int32) (x2 : Int32) (x3 : Int32) (x4 : Int32) (h : CH) : Option Int32 :=
  clp (f_X9_has_7 x1 h) fun v_1 => (if (v_1) = 0 then some ((-1)) else clp (f_X9_has_7 x3 h) fun v_3 => (if (v_3) = 0 then some ((-1)) else clp (f_X11_isYear x2 h) fun v_5 => (if (v_5) = 0 then some ((-1)) else clp (f_X11_isYear x4 h) fun v_7 => (if (v_7) = 0 then some ((-1)) else f_X11_far_L45 (x1) (x2) (x3) (x4) h FU ((nI 0)) ((nI 0))))))
def f_X11_isLight (x0 : Int32) (h : CH) : Option Int32 :=
  (if (x0) < 0 then some (nI 0) else (if ((nI 9)) < (x0) then some (nI 0) else some (nI 1)))
def f_X11_isWhen (x0 : Int32) (x1 : Int32) (h : CH) : Option Int32 :=
  clp (f_X11_isYear x0 h) fun v_1 => (if (v_1) = 0 then some (nI 0) else clp (f_X11_isLight x1 h) fun v_3 => (if (v_3) = 0 then some (nI 0) else some (nI 1)))
def f_X1_open_L32 (x3 : Int32) (k110 : CH → Option (Unit × CH)) : Nat → Int32 → CH → Option (Unit × CH)
  | 0, _, _ => none
  | n + 1, x4, h =>
    (if (x4) < (h.1 7 0) then (if (x4) < ((nI 8)) then rdQ 83 16 (x3) fun q_8 => clp (f_X9_measureIn_7 x3 x4 (h.1 81 5) h) fun v_9 => wrA h q_8 8 (x4) (mn ((nI 99)) ((v_9) + (h.1 81 6))) fun h_10 => rdQ 100 16 (x3) fun q_11 => clp (f_X9_measureIn_7 x3 x4 ((nI 0)) h_10) fun v_12 => wrA h_10 q_11 8 (x4) (v_12) fun h_13 => f_X1_open_L32 x3 k110 n (x4 + (nI 1)) h_13 else k110 h) else k110 h)
def f_X1_open_L12  : Nat → Int32 → CH → Option (Unit × CH)
  | 0, _, _ => none
  | n + 1, x3, h =>
    (if (x3) < (h.1 7 2) then (if (x3) < ((nI 16)) then f_X1_open_L32 (x3) (fun (h_5 : CH) => f_X1_open_L12 n (x3 + (nI 1)) h_5) FU ((nI 0)) h else some ((), h)) else some ((), h))
def f_X1_open (x1 : Int32) (x2 : Int32) (h : CH) : Option (Unit × CH) :=
  wrF h 81 5 (x1) fun h_1 => wrF h_1 81 6 (x2) fun h_2 => f_X1_open_L12 FU ((nI 0)) h_2
def f_X9_apart_7_L5 (q1 : Nat) (q2 : Nat) (h : CH) : Nat → Int32 → Int32 → Option Int32
  | 0, _, _ => none
  | n + 1, x3, x4 =>
    (if (x4) < (h.1 7 0) then (if (x4) < ((nI 8)) then (if (x4) < ((nI 8)) then rdA h q1 8 (x4) fun v_4 => rdA h q2 8 (x4) fun v_5 => f_X9_apart_7_L5 q1 q2 h n ((x3) + (ab ((v_4) - (v_5)))) (x4 + (nI 1)) else some (x3)) else some (x3)) else some (x3))
def f_X9_apart_7 (ra : Nat) (rb : Nat) (h : CH) : Option Int32 :=
  f_X9_apart_7_L5 ra rb h FU ((nI 0)) ((nI 0))
def f_X1_apartFromPicture (x1 : Int32) (x2 : Int32) (h : CH) : Option Int32 :=
  clp (f_X9_has_7 x1 h) fun v_1 => (if (v_1) = 0 then some ((nI 0)) else clp (f_X9_has_7 x2 h) fun v_3 => (if (v_3) = 0 then some ((nI 0)) else rdQ 83 16 (x1) fun q_5 => rdQ 100 16 (x2) fun q_6 => clp (f_X9_apart_7 q_5 q_6 h) fun v_7 => some (v_7)))
def f_X9_kindOf_7 (x1 : Int32) (h : CH) : Option Int32 :=
  clp (f_X9_has_7 x1 h) fun v_1 => (if (v_1) = 0 then some ((-1)) else rdA h 9 16 (x1) fun v_3 => some (v_3))
def f_X5_valueAt_55 (x1 : Int32) (h : CH) : Option Int32 :=
  (if (x1) < 0 then some ((nI 0)) else (if (x1) < ((nI 12)) then rdA h 61 12 (x1) fun v_3 => some (v_3) else some ((nI 0))))
def f_X5_joined (x0 : Int32) (x1 : Int32) (x2 : Int32) (h : CH) : Option Int32 :=
  (if (x0) = (nI 3) then some ((x1) * (x2)) else (if (x0) = (nI 4) then some ((x1) + (x2)) else (if (x0) = (nI 5) then some ((x1) - (x2)) else (if (x0) = (nI 6) then (if (x1) < (x2) then some ((nI 1)) else some ((nI 0))) else (if (x0) = (nI 7) then (if (x2) < (x1) then some ((nI 1)) else some ((nI 0))) else (if (x0) = (nI 8) then (if (x1) = (x2) then some ((nI 1)) else some ((nI 0))) else (if (x0) = (nI 9) then (if (x1) = 0 then some ((nI 0)) else (if (x2) = 0 then some ((nI 0)) else some ((nI 1)))) else jn (some ((nI 1))) fun (j_13 : Option Int32) => (if (x1) = 0 then (if (x2) = 0 then some ((nI 0)) else j_13) else j_13))))))))
def f_X5_result_55_L9 (x2 : Int32) : Nat → Int32 → Int32 → CH → Option (Int32 × CH)
  | 0, _, _, _ => none
  | n + 1, x3, x4, h =>
    jn ((if (x3) < ((nI 1)) then some (((nI 0)), h) else rdA h 62 40 ((x3) - ((nI 1))) fun v_3 => some ((v_3), h))) fun (j_1 : Option (Int32 × CH)) => (if (x4) < (x2) then (if (x4) < ((nI 800)) then rdA h 59 800 (x4) fun v_6 => jn (fun (x3_7 : Int32) (h_8 : CH) => f_X5_result_55_L9 x2 n (x3_7) (x4 + (nI 1)) h_8) fun (j_9 : Int32 → CH → Option (Int32 × CH)) => jn ((if (x3) < ((nI 40)) then jn (fun (s_12 : Int32) (s_13 : Int32) => wrA h 62 40 (s_13) (s_12) fun h_15 => j_9 (x3 + (nI 1)) h_15) fun (j_14 : Int32 → Int32 → Option (Int32 × CH)) => (if (v_6) = 0 then rdA h 60 800 (x4) fun v_17 => j_14 (v_17) (x3) else rdA h 60 800 (x4) fun v_18 => clp (f_X5_valueAt_55 v_18 h) fun v_19 => j_14 (v_19) (x3)) else j_9 (x3) h)) fun (j_10 : Option (Int32 × CH)) => (if (v_6) = 0 then j_10 else (if (v_6) = ((nI 1)) then j_10 else (if (v_6) = ((nI 2)) then (if (x3) < ((nI 1)) then j_9 (x3) h else rdA h 62 40 ((x3) - ((nI 1))) fun v_24 => jn (fun (s_25 : Int32) (s_26 : Int32) => wrA h 62 40 (s_26) (s_25) fun h_28 => j_9 (x3) h_28) fun (j_27 : Int32 → Int32 → Option (Int32 × CH)) => (if (v_24) = 0 then j_27 ((nI 1)) ((x3) - ((nI 1))) else j_27 ((nI 0)) ((x3) - ((nI 1))))) else (if (x3) < ((nI 2)) then j_9 (x3) h else rdA h 62 40 ((x3 + (-1)) - ((nI 1))) fun v_31 => rdA h 62 40 (x3 + (-1)) fun v_32 => clp (f_X5_joined v_6 v_31 v_32 h) fun v_33 => wrA h 62 40 ((x3 + (-1)) - ((nI 1))) (v_33) fun h_34 => j_9 (x3 + (-1)) h_34)))) else j_1) else j_1)
def f_X5_result_55 (x1 : Int32) (x2 : Int32) (h : CH) : Option (Int32 × CH) :=
  f_X5_result_55_L9 (x2) FU ((nI 0)) (mx ((nI 0)) (x1)) h
def f_X5_lets_55 (x1 : Int32) (x2 : Int32) (x3 : Int32) (x4 : Int32) (h : CH) : Option (Int32 × CH) :=
  (if (h.1 55 2) = 0 then (if (x1) < ((nI 40)) then some ((nI 1), h) else some ((nI 0), h)) else wrA h 61 12 ((nI 0)) (x1) fun h_3 => wrA h_3 61 12 ((nI 1)) (x2) fun h_4 => wrA h_4 61 12 ((nI 2)) (x3) fun h_5 => wrA h_5 61 12 ((nI 3)) (x4) fun h_6 => cl (f_X5_result_55 (h_6.1 55 3) (h_6.1 55 4) h_6) fun v_7 h_8 => (if (v_7) = 0 then some ((nI 0), h_8) else some ((nI 1), h_8)))
def f_X1_lets (x1 : Int32) (x2 : Int32) (h : CH) : Option (Int32 × CH) :=
  clp (f_X9_kindOf_7 x1 h) fun v_1 => cl (f_X5_lets_55 x2 v_1 (h.1 81 5) (h.1 81 6) h) fun v_2 h_3 => rz (v_2) ((v_2), h_3)
def f_X1_letsInWith (x1 : Int32) (x2 : Int32) (h : CH) : Option (Int32 × CH) :=
  clp (f_X1_apartFromPicture x1 x2 h) fun v_1 => cl (f_X1_lets x1 v_1 h) fun v_2 h_3 => rz (v_2) ((v_2), h_3)
def f_X11_passes (x1 : Int32) (x2 : Int32) (x3 : Int32) (x4 : Int32) (h : CH) : Option (Int32 × CH) :=
  clp (f_X9_has_7 x1 h) fun v_1 => (if (v_1) = 0 then some (((-1)), h) else clp (f_X9_has_7 x2 h) fun v_3 => (if (v_3) = 0 then some (((-1)), h) else clp (f_X11_isWhen x3 x4 h) fun v_5 => (if (v_5) = 0 then some (((-1)), h) else cl (f_X1_open x3 x4 h) fun _ h_7 => cl (f_X1_letsInWith x1 x2 h_7) fun v_8 h_9 => (if (v_8) = 0 then some (((nI 0)), h_9) else some (((nI 1)), h_9)))))
def f_X11_isShare (x0 : Int32) (h : CH) : Option Int32 :=
  (if (x0) < 0 then some (nI 0) else (if ((nI 10)) < (x0) then some (nI 0) else some (nI 1)))
def f_X11_isMix (x1 : Int32) (x2 : Int32) (x3 : Int32) (h : CH) : Option Int32 :=
  clp (f_X9_has_7 x1 h) fun v_1 => (if (v_1) = 0 then some (nI 0) else clp (f_X9_has_7 x2 h) fun v_3 => (if (v_3) = 0 then some (nI 0) else (if (x1) = (x2) then some (nI 0) else clp (f_X11_isShare x3 h) fun v_6 => (if (v_6) = 0 then some (nI 0) else some (nI 1)))))
def f_X11_isPrinterOrNot (x0 : Int32) (h : CH) : Option Int32 :=
  (if (x0) < ((-1)) then some (nI 0) else (if (x0) < ((nI 4)) then some (nI 1) else some (nI 0)))
def f_X9_blurOf_7 (x1 : Int32) (h : CH) : Option Int32 :=
  (if (x1) < 0 then some ((nI 0)) else (if (x1) < ((nI 4)) then rdA h 29 4 (x1) fun v_3 => some (v_3) else some ((nI 0))))
def f_X9_mixed_7 (x1 : Int32) (x2 : Int32) (x3 : Int32) (x4 : Int32) (h : CH) : Option Int32 :=
  clp (f_X9_has_7 x1 h) fun v_1 => (if (v_1) = 0 then some ((nI 0)) else clp (f_X9_has_7 x2 h) fun v_3 => (if (v_3) = 0 then some ((nI 0)) else (if (x4) < 0 then some ((nI 0)) else (if (x4) < ((nI 8)) then rdQ 12 16 (x1) fun q_7 => rdA h q_7 8 (x4) fun v_8 => rdQ 12 16 (x2) fun q_9 => rdA h q_9 8 (x4) fun v_10 => some ((((v_8) * (x3)) + ((v_10) * (((nI 10)) - (x3)))) / ((nI 10))) else some ((nI 0))))))
def f_X0_developInto_L20 (q1 : Nat) (x2 : Int32) (x3 : Int32) (x4 : Int32) (x6 : Int32) : Nat → Int32 → CH → Option (Unit × CH)
  | 0, _, _ => none
  | n + 1, x7, h =>
    (if (x7) < ((nI 8)) then (if (x7) < ((nI 8)) then jn (fun (s_4 : Int32) => dvd (x6) <| wrA h q1 8 (x7) ((s_4) - ((s_4) - (s_4) / (x6) * (x6))) fun h_6 => f_X0_developInto_L20 q1 x2 x3 x4 x6 n (x7 + (nI 1)) h_6) fun (j_5 : Int32 → Option (Unit × CH)) => (if (x7) < (h.1 7 0) then clp (f_X9_mixed_7 x2 x3 x4 x7 h) fun v_8 => j_5 (v_8) else j_5 ((nI 0))) else some ((), h)) else some ((), h))
def f_X0_developInto (ra : Nat) (x2 : Int32) (x3 : Int32) (x4 : Int32) (x5 : Int32) (h : CH) : Option (Unit × CH) :=
  clp (f_X9_blurOf_7 x5 h) fun v_1 => f_X0_developInto_L20 ra (x2) (x3) (x4) ((mx ((nI 0)) (v_1)) + ((nI 1))) FU ((nI 0)) h
def f_X0_develop (x1 : Int32) (x2 : Int32) (x3 : Int32) (x4 : Int32) (h : CH) : Option (Unit × CH) :=
  cl (f_X0_developInto 80 x1 x2 x3 x4 h) fun _ h_1 => some ((), h_1)
def f_X11_mix (x1 : Int32) (x2 : Int32) (x3 : Int32) (x4 : Int32) (x5 : Int32) (h : CH) : Option (Int32 × CH) :=
  clp (f_X11_isMix x1 x2 x3 h) fun v_1 => (if (v_1) = 0 then some (((-1)), h) else clp (f_X11_isPrinterOrNot x4 h) fun v_3 => (if (v_3) = 0 then some (((-1)), h) else (if (x5) < 0 then some (((-1)), h) else (if (x5) < (h.1 7 0) then cl (f_X0_develop x1 x2 x3 x4 h) fun _ h_7 => rdA h_7 80 8 (x5) fun v_8 => some ((v_8), h_7) else some (((-1)), h)))))
def f_X1_makeMix_L3 (x1 : Int32) (x2 : Int32) (x3 : Int32) : Nat → Int32 → CH → Option (Unit × CH)
  | 0, _, _ => none
  | n + 1, x4, h =>
    (if (x4) < (h.1 7 0) then (if (x4) < ((nI 8)) then clp (f_X9_mixed_7 x1 x2 x3 x4 h) fun v_3 => wrA h 116 8 (x4) (v_3) fun h_4 => f_X1_makeMix_L3 x1 x2 x3 n (x4 + (nI 1)) h_4 else some ((), h)) else some ((), h))
def f_X1_makeMix (x1 : Int32) (x2 : Int32) (x3 : Int32) (h : CH) : Option (Unit × CH) :=
  f_X1_makeMix_L3 (x1) (x2) (x3) FU ((nI 0)) h
def f_X1_apartFromMix (x1 : Int32) (h : CH) : Option Int32 :=
  clp (f_X9_has_7 x1 h) fun v_1 => (if (v_1) = 0 then some ((nI 0)) else rdQ 83 16 (x1) fun q_3 => clp (f_X9_apart_7 q_3 116 h) fun v_4 => some (v_4))
def f_X1_whoPasses (x1 : Int32) (x2 : Int32) (x3 : Int32) (h : CH) : Option (Int32 × CH) :=
  cl (f_X1_makeMix x1 x2 x3 h) fun _ h_1 => clp (f_X1_apartFromMix x1 h_1) fun v_2 => cl (f_X1_lets x1 v_2 h_1) fun v_3 h_4 => jn (fun (s_5 : Int32) => clp (f_X1_apartFromMix x2 h_4) fun v_7 => cl (f_X1_lets x2 v_7 h_4) fun v_8 h_9 => jn (fun (s_10 : Int32) => some (((s_5) + (s_10)), h_9)) fun (j_11 : Int32 → Option (Int32 × CH)) => (if (v_8) = 0 then j_11 ((nI 0)) else j_11 ((nI 2)))) fun (j_6 : Int32 → Option (Int32 × CH)) => (if (v_3) = 0 then j_6 ((nI 0)) else j_6 ((nI 1)))
def f_X11_both (x1 : Int32) (x2 : Int32) (x3 : Int32) (x4 : Int32) (x5 : Int32) (h : CH) : Option (Int32 × CH) :=
  clp (f_X11_isMix x1 x2 x3 h) fun v_1 => (if (v_1) = 0 then some (((-1)), h) else clp (f_X11_isWhen x4 x5 h) fun v_3 => (if (v_3) = 0 then some (((-1)), h) else cl (f_X1_open x4 x5 h) fun _ h_5 => cl (f_X1_whoPasses x1 x2 x3 h_5) fun v_6 h_7 => some ((v_6), h_7)))
def f_X1_bestShare_L8 (x1 : Int32) (x2 : Int32) : Nat → Int32 → Int32 → Int32 → CH → Option (Int32 × CH)
  | 0, _, _, _, _ => none
  | n + 1, x3, x4, x5, h =>
    (if ((nI 10)) < (x5) then some ((x3), h) else cl (f_X1_makeMix x1 x2 x5 h) fun _ h_2 => clp (f_X1_apartFromMix x1 h_2) fun v_3 => clp (f_X1_apartFromMix x2 h_2) fun v_4 => jn (fun (x3_5 : Int32) (x4_6 : Int32) (h_7 : CH) => f_X1_bestShare_L8 x1 x2 n (x3_5) (x4_6) (x5 + (nI 1)) h_7) fun (j_8 : Int32 → Int32 → CH → Option (Int32 × CH)) => jn (cl (f_X1_lets x1 v_3 h_2) fun v_10 h_11 => (if (v_10) = 0 then j_8 (x3) (x4) h_11 else cl (f_X1_lets x2 v_4 h_11) fun v_13 h_14 => (if (v_13) = 0 then j_8 (x3) (x4) h_14 else j_8 (x5) (mx (v_3) (v_4)) h_14))) fun (j_9 : Option (Int32 × CH)) => (if (x3) = ((-1)) then j_9 else (if (mx (v_3) (v_4)) < (x4) then j_9 else j_8 (x3) (x4) h_2)))
def f_X1_bestShare (x1 : Int32) (x2 : Int32) (h : CH) : Option (Int32 × CH) :=
  f_X1_bestShare_L8 (x1) (x2) FU ((-1)) ((nI 0)) ((nI 0)) h
def f_X11_able (x1 : Int32) (x2 : Int32) (x3 : Int32) (x4 : Int32) (h : CH) : Option (Int32 × CH) :=
  clp (f_X9_has_7 x1 h) fun v_1 => (if (v_1) = 0 then some (((-1)), h) else clp (f_X9_has_7 x2 h) fun v_3 => (if (v_3) = 0 then some (((-1)), h) else (if (x1) < (x2) then clp (f_X11_isWhen x3 x4 h) fun v_6 => (if (v_6) = 0 then some (((-1)), h) else cl (f_X1_open x3 x4 h) fun _ h_8 => cl (f_X1_bestShare x1 x2 h_8) fun v_9 h_10 => some ((v_9), h_10)) else some (((-1)), h))))
def f_X1_isAble_L2 (x1 : Int32) (x2 : Int32) : Nat → Int32 → CH → Option (Int32 × CH)
  | 0, _, _ => none
  | n + 1, x3, h =>
    (if ((nI 10)) < (x3) then some ((nI 0), h) else cl (f_X1_makeMix x1 x2 x3 h) fun _ h_2 => clp (f_X1_apartFromMix x1 h_2) fun v_3 => cl (f_X1_lets x1 v_3 h_2) fun v_4 h_5 => jn (fun (h_6 : CH) => f_X1_isAble_L2 x1 x2 n (x3 + (nI 1)) h_6) fun (j_7 : CH → Option (Int32 × CH)) => (if (v_4) = 0 then j_7 h_5 else clp (f_X1_apartFromMix x2 h_5) fun v_9 => cl (f_X1_lets x2 v_9 h_5) fun v_10 h_11 => (if (v_10) = 0 then j_7 h_11 else some ((nI 1), h_11))))
def f_X1_isAble (x1 : Int32) (x2 : Int32) (h : CH) : Option (Int32 × CH) :=
  f_X1_isAble_L2 (x1) (x2) FU ((nI 0)) h
def f_X1_countAble_L19 (x2 : Int32) (k48 : Int32 → CH → Option (Int32 × CH)) : Nat → Int32 → Int32 → CH → Option (Int32 × CH)
  | 0, _, _, _ => none
  | n + 1, x1, x3, h =>
    (if (x3) < (h.1 7 2) then cl (f_X1_isAble x2 x3 h) fun v_5 h_6 => jn (fun (x1_7 : Int32) => f_X1_countAble_L19 x2 k48 n (x1_7) (x3 + (nI 1)) h_6) fun (j_8 : Int32 → Option (Int32 × CH)) => (if (v_5) = 0 then j_8 (x1) else j_8 (x1 + (nI 1))) else k48 (x1) h)
def f_X1_countAble_L4  : Nat → Int32 → Int32 → CH → Option (Int32 × CH)
  | 0, _, _, _ => none
  | n + 1, x1, x2, h =>
    (if (x2) < (h.1 7 2) then f_X1_countAble_L19 (x2) (fun (x1_2 : Int32) (h_3 : CH) => f_X1_countAble_L4 n (x1_2) (x2 + (nI 1)) h_3) FU (x1) ((x2) + ((nI 1))) h else some ((x1), h))
def f_X1_countAble  (h : CH) : Option (Int32 × CH) :=
  f_X1_countAble_L4 FU ((nI 0)) ((nI 0)) h
def f_X11_pairs (x1 : Int32) (x2 : Int32) (h : CH) : Option (Int32 × CH) :=
  clp (f_X11_isWhen x1 x2 h) fun v_1 => (if (v_1) = 0 then some (((-1)), h) else cl (f_X1_open x1 x2 h) fun _ h_3 => cl (f_X1_countAble h_3) fun v_4 h_5 => some ((v_4), h_5))
def f_X1_ableAt_L20 (x3 : Int32) (k46 : Int32 → CH → Option (Int32 × CH)) (k63 : Int32 → CH → Option (Int32 × CH)) : Nat → Int32 → Int32 → CH → Option (Int32 × CH)
  | 0, _, _, _ => none
  | n + 1, x2, x4, h =>
    (if (x4) < (h.1 7 2) then cl (f_X1_isAble x3 x4 h) fun v_7 h_8 => jn (fun (x2_9 : Int32) => f_X1_ableAt_L20 x3 k46 k63 n (x2_9) (x4 + (nI 1)) h_8) fun (j_10 : Int32 → Option (Int32 × CH)) => (if (v_7) = 0 then j_10 (x2) else (if (x2) = 0 then k46 (x4) h_8 else j_10 (x2 + (-1)))) else k63 (x2) h)
def f_X1_ableAt_L4  : Nat → Int32 → Int32 → CH → Option (Int32 × CH)
  | 0, _, _, _ => none
  | n + 1, x2, x3, h =>
    (if (x3) < (h.1 7 2) then f_X1_ableAt_L20 (x3) (fun (x4_2 : Int32) (h_3 : CH) => some (((((nI 100)) * (x3)) + (x4_2)), h_3)) (fun (x2_4 : Int32) (h_5 : CH) => f_X1_ableAt_L4 n (x2_4) (x3 + (nI 1)) h_5) FU (x2) ((x3) + ((nI 1))) h else some (((-1)), h))
def f_X1_ableAt (x1 : Int32) (h : CH) : Option (Int32 × CH) :=
  f_X1_ableAt_L4 FU (x1) ((nI 0)) h
def f_X11_pair (x1 : Int32) (x2 : Int32) (x3 : Int32) (h : CH) : Option (Int32 × CH) :=
  (if (x1) < 0 then some (((-1)), h) else clp (f_X11_isWhen x2 x3 h) fun v_2 => (if (v_2) = 0 then some (((-1)), h) else cl (f_X1_open x2 x3 h) fun _ h_4 => cl (f_X1_ableAt x1 h_4) fun v_5 h_6 => some ((v_5), h_6)))
def f_X1_isOf (x1 : Int32) (x2 : Int32) (h : CH) : Option Int32 :=
  jn (some (nI 1)) fun (j_1 : Option Int32) => (if (x2) = ((-1)) then j_1 else clp (f_X9_kindOf_7 x1 h) fun v_3 => (if (v_3) = (x2) then j_1 else some (nI 0)))
def f_X1_countFalse_L18 (x1 : Int32) (x3 : Int32) (k64 : Int32 → CH → Option (Int32 × CH)) : Nat → Int32 → Int32 → CH → Option (Int32 × CH)
  | 0, _, _, _ => none
  | n + 1, x2, x4, h =>
    (if (x4) < (h.1 7 2) then jn (fun (x2_5 : Int32) (h_6 : CH) => f_X1_countFalse_L18 x1 x3 k64 n (x2_5) (x4 + (nI 1)) h_6) fun (j_7 : Int32 → CH → Option (Int32 × CH)) => (if (x3) = (x4) then j_7 (x2) h else clp (f_X1_isOf x3 x1 h) fun v_9 => (if (v_9) = 0 then j_7 (x2) h else cl (f_X1_letsInWith x3 x4 h) fun v_11 h_12 => (if (v_11) = 0 then j_7 (x2) h_12 else j_7 (x2 + (nI 1)) h_12))) else k64 (x2) h)
def f_X1_countFalse_L4 (x1 : Int32) : Nat → Int32 → Int32 → CH → Option (Int32 × CH)
  | 0, _, _, _ => none
  | n + 1, x2, x3, h =>
    (if (x3) < (h.1 7 2) then f_X1_countFalse_L18 (x1) (x3) (fun (x2_2 : Int32) (h_3 : CH) => f_X1_countFalse_L4 x1 n (x2_2) (x3 + (nI 1)) h_3) FU (x2) ((nI 0)) h else some ((x2), h))
def f_X1_countFalse (x1 : Int32) (h : CH) : Option (Int32 × CH) :=
  f_X1_countFalse_L4 (x1) FU ((nI 0)) ((nI 0)) h
def f_X1_countHeld_L4 (x1 : Int32) : Nat → Int32 → Int32 → CH → Option (Int32 × CH)
  | 0, _, _, _ => none
  | n + 1, x2, x3, h =>
    (if (x3) < (h.1 7 2) then clp (f_X1_isOf x3 x1 h) fun v_2 => jn (fun (x2_3 : Int32) (h_4 : CH) => f_X1_countHeld_L4 x1 n (x2_3) (x3 + (nI 1)) h_4) fun (j_5 : Int32 → CH → Option (Int32 × CH)) => (if (v_2) = 0 then j_5 (x2) h else cl (f_X1_letsInWith x3 x3 h) fun v_7 h_8 => (if (v_7) = 0 then j_5 (x2 + (nI 1)) h_8 else j_5 (x2) h_8)) else some ((x2), h))
def f_X1_countHeld (x1 : Int32) (h : CH) : Option (Int32 × CH) :=
  f_X1_countHeld_L4 (x1) FU ((nI 0)) ((nI 0)) h
def f_X11_gate (x1 : Int32) (x2 : Int32) (x3 : Int32) (x4 : Int32) (h : CH) : Option (Int32 × CH) :=
  (if (x1) < 0 then some (((-1)), h) else (if ((nI 1)) < (x1) then some (((-1)), h) else (if (x2) < ((-1)) then some (((-1)), h) else (if (x2) < ((nI 4)) then clp (f_X11_isWhen x3 x4 h) fun v_5 => (if (v_5) = 0 then some (((-1)), h) else cl (f_X1_open x3 x4 h) fun _ h_7 => (if (x1) = 0 then cl (f_X1_countFalse x2 h_7) fun v_9 h_10 => some ((v_9), h_10) else cl (f_X1_countHeld x2 h_7) fun v_11 h_12 => some ((v_11), h_12))) else some (((-1)), h)))))
def f_X1_countTwins_L19 (x2 : Int32) (k57 : Int32 → CH → Option (Int32 × CH)) : Nat → Int32 → Int32 → CH → Option (Int32 × CH)
  | 0, _, _, _ => none
  | n + 1, x1, x3, h =>
    (if (x3) < (h.1 7 2) then cl (f_X1_letsInWith x2 x3 h) fun v_5 h_6 => jn (fun (x1_7 : Int32) (h_8 : CH) => f_X1_countTwins_L19 x2 k57 n (x1_7) (x3 + (nI 1)) h_8) fun (j_9 : Int32 → CH → Option (Int32 × CH)) => (if (v_5) = 0 then j_9 (x1) h_6 else cl (f_X1_letsInWith x3 x2 h_6) fun v_11 h_12 => (if (v_11) = 0 then j_9 (x1) h_12 else j_9 (x1 + (nI 1)) h_12)) else k57 (x1) h)
def f_X1_countTwins_L4  : Nat → Int32 → Int32 → CH → Option (Int32 × CH)
  | 0, _, _, _ => none
  | n + 1, x1, x2, h =>
    (if (x2) < (h.1 7 2) then f_X1_countTwins_L19 (x2) (fun (x1_2 : Int32) (h_3 : CH) => f_X1_countTwins_L4 n (x1_2) (x2 + (nI 1)) h_3) FU (x1) ((x2) + ((nI 1))) h else some ((x1), h))
def f_X1_countTwins  (h : CH) : Option (Int32 × CH) :=
  f_X1_countTwins_L4 FU ((nI 0)) ((nI 0)) h
def f_X11_twins (x1 : Int32) (x2 : Int32) (h : CH) : Option (Int32 × CH) :=
  clp (f_X11_isWhen x1 x2 h) fun v_1 => (if (v_1) = 0 then some (((-1)), h) else cl (f_X1_open x1 x2 h) fun _ h_3 => cl (f_X1_countTwins h_3) fun v_4 h_5 => some ((v_4), h_5))
def f_X11_until_L22 (x1 : Int32) (x2 : Int32) : Nat → Int32 → CH → Option (Int32 × CH)
  | 0, _, _ => none
  | n + 1, x3, h =>
    (if ((nI 60)) < (x3) then some (((-1)), h) else cl (f_X1_open x3 x2 h) fun _ h_6 => cl (f_X1_letsInWith x1 x1 h_6) fun v_7 h_8 => (if (v_7) = 0 then some ((x3), h_8) else f_X11_until_L22 x1 x2 n (x3 + (nI 1)) h_8))
def f_X11_until (x1 : Int32) (x2 : Int32) (h : CH) : Option (Int32 × CH) :=
  clp (f_X9_has_7 x1 h) fun v_1 => (if (v_1) = 0 then some (((-1)), h) else clp (f_X11_isLight x2 h) fun v_3 => (if (v_3) = 0 then some (((-1)), h) else f_X11_until_L22 (x1) (x2) FU ((nI 0)) h))
def f_X5_lookAt_55_L31 (q1 : Nat) (x2 : Int32) : Nat → Int32 → CH → Option (Unit × CH)
  | 0, _, _ => none
  | n + 1, x3, h =>
    (if (x3) < (x2) then (if (x3) < ((nI 8)) then (if (x3) < ((nI 8)) then rdA h q1 8 (x3) fun v_8 => rdA h 61 12 ((nI 0)) fun v_9 => wrA h 61 12 ((nI 0)) ((v_9) + (v_8)) fun h_10 => rdA h_10 61 12 ((nI 1)) fun v_11 => jn (fun (s_12 : Int32) (s_13 : Int32) (s_14 : Int32) => wrA h_10 61 12 (s_14) ((s_13) + (s_12)) fun h_16 => rdA h_16 61 12 ((nI 2)) fun v_17 => wrA h_16 61 12 ((nI 2)) (mx (v_17) (v_8)) fun h_18 => rdA h_18 61 12 ((nI 3)) fun v_19 => wrA h_18 61 12 ((nI 3)) (mn (v_19) (v_8)) fun h_20 => wrA h_20 61 12 (((nI 4)) + (x3)) (v_8) fun h_21 => f_X5_lookAt_55_L31 q1 x2 n (x3 + (nI 1)) h_21) fun (j_15 : Int32 → Int32 → Int32 → Option (Unit × CH)) => (if (x3) = 0 then j_15 ((nI 0)) (v_11) ((nI 1)) else rdA h_10 q1 8 ((x3) - ((nI 1))) fun v_23 => j_15 (ab ((v_8) - (v_23))) (v_11) ((nI 1))) else some ((), h)) else some ((), h)) else some ((), h))
def f_X5_lookAt_55 (ra : Nat) (x2 : Int32) (h : CH) : Option (Unit × CH) :=
  wrA h 61 12 ((nI 0)) ((nI 0)) fun h_1 => wrA h_1 61 12 ((nI 1)) ((nI 0)) fun h_2 => wrA h_2 61 12 ((nI 2)) ((nI 0)) fun h_3 => wrA h_3 61 12 ((nI 3)) ((nI 99)) fun h_4 => f_X5_lookAt_55_L31 ra (x2) FU ((nI 0)) h_4
def f_X5_shownBy_55_L11  : Nat → Int32 → Int32 → CH → Option (Int32 × CH)
  | 0, _, _, _ => none
  | n + 1, x3, x4, h =>
    (if (x4) < (h.1 55 0) then (if (x4) < ((nI 6)) then rdA h 57 6 (x4) fun v_4 => rdA h 58 6 (x4) fun v_5 => cl (f_X5_result_55 v_4 v_5 h) fun v_6 h_7 => jn (fun (x3_8 : Int32) => f_X5_shownBy_55_L11 n (x3_8) (x4 + (nI 1)) h_7) fun (j_9 : Int32 → Option (Int32 × CH)) => (if (v_6) = 0 then j_9 (x3) else j_9 ((x3) ||| (((nI 1)) <<< ((x4) &&& 31)))) else some ((x3), h)) else some ((x3), h))
def f_X5_shownBy_55 (ra : Nat) (x2 : Int32) (h : CH) : Option (Int32 × CH) :=
  cl (f_X5_lookAt_55 ra x2 h) fun _ h_1 => f_X5_shownBy_55_L11 FU ((nI 0)) ((nI 0)) h_1
def f_X0_shown (x1 : Int32) (x2 : Int32) (x3 : Int32) (x4 : Int32) (h : CH) : Option (Int32 × CH) :=
  cl (f_X0_developInto 80 x1 x2 x3 x4 h) fun _ h_1 => cl (f_X5_shownBy_55 80 (h_1.1 7 0) h_1) fun v_2 h_3 => some ((v_2), h_3)
def f_X11_signs (x1 : Int32) (x2 : Int32) (x3 : Int32) (x4 : Int32) (h : CH) : Option (Int32 × CH) :=
  clp (f_X11_isMix x1 x2 x3 h) fun v_1 => (if (v_1) = 0 then some (((-1)), h) else clp (f_X11_isPrinterOrNot x4 h) fun v_3 => (if (v_3) = 0 then some (((-1)), h) else cl (f_X0_shown x1 x2 x3 x4 h) fun v_5 h_6 => some ((v_5), h_6)))
def f_X0_caughtOf_L6 (x1 : Int32) (x2 : Int32) (x3 : Int32) : Nat → Int32 → Int32 → CH → Option (Int32 × CH)
  | 0, _, _, _ => none
  | n + 1, x4, x5, h =>
    (if (x5) < ((nI 10)) then cl (f_X0_shown x1 x2 x5 x3 h) fun v_2 h_3 => jn (fun (x4_4 : Int32) => f_X0_caughtOf_L6 x1 x2 x3 n (x4_4) (x5 + (nI 1)) h_3) fun (j_5 : Int32 → Option (Int32 × CH)) => (if (v_2) = 0 then j_5 (x4) else j_5 (x4 + (nI 1))) else some ((x4), h))
def f_X0_caughtOf (x1 : Int32) (x2 : Int32) (x3 : Int32) (h : CH) : Option (Int32 × CH) :=
  f_X0_caughtOf_L6 (x1) (x2) (x3) FU ((nI 0)) ((nI 1)) h
def f_X0_commonDivisor_L7 (h : CH) : Nat → Int32 → Int32 → Int32 → Option Int32
  | 0, _, _, _ => none
  | n + 1, x2, x3, x4 =>
    (if (x4) < ((nI 10000)) then (if (x3) = 0 then some (x2) else dvd (x3) <| f_X0_commonDivisor_L7 h n (x3) ((x2) - (x2) / (x3) * (x3)) (x4 + (nI 1))) else some (x2))
def f_X0_commonDivisor (x0 : Int32) (x1 : Int32) (h : CH) : Option Int32 :=
  f_X0_commonDivisor_L7 h FU (x0) (x1) ((nI 0))
def f_X0_caughtPart_L47 (x1 : Int32) (x2 : Int32) (x3 : Int32) (x5 : Int32) (k79 : Int32 → CH → Option (Int32 × CH)) : Nat → Int32 → Int32 → CH → Option (Int32 × CH)
  | 0, _, _, _ => none
  | n + 1, x4, x6, h =>
    (if (x6) < (h.1 7 2) then cl (f_X0_caughtOf x5 x6 x1 h) fun v_5 h_6 => f_X0_caughtPart_L47 x1 x2 x3 x5 k79 n ((x4) + (v_5)) (x6 + (nI 1)) h_6 else k79 (x4) h)
def f_X0_caughtPart_L29 (x1 : Int32) (x2 : Int32) (x3 : Int32) : Nat → Int32 → Int32 → CH → Option (Int32 × CH)
  | 0, _, _, _ => none
  | n + 1, x4, x5, h =>
    (if (x5) < (h.1 7 2) then f_X0_caughtPart_L47 (x1) (x2) (x3) (x5) (fun (x4_2 : Int32) (h_3 : CH) => f_X0_caughtPart_L29 x1 x2 x3 n (x4_2) (x5 + (nI 1)) h_3) FU (x4) ((x5) + ((nI 1))) h else clp (f_X0_commonDivisor x3 x4 h) fun v_7 => (if (v_7) = 0 then some (((-1)), h) else jn (fun (s_9 : Int32) => dvd (v_7) <| some (((s_9) / (v_7)), h)) fun (j_10 : Int32 → Option (Int32 × CH)) => (if (x2) = 0 then j_10 (x4) else j_10 (x3))))
def f_X0_caughtPart (x1 : Int32) (x2 : Int32) (h : CH) : Option (Int32 × CH) :=
  f_X0_caughtPart_L29 (x1) (x2) ((((h.1 7 2) * ((h.1 7 2) - ((nI 1)))) / ((nI 2))) * ((nI 9))) FU ((nI 0)) ((nI 0)) h
def f_X11_caught (x1 : Int32) (x2 : Int32) (h : CH) : Option (Int32 × CH) :=
  clp (f_X11_isPrinterOrNot x1 h) fun v_1 => (if (v_1) = 0 then some (((-1)), h) else (if (x2) < 0 then some (((-1)), h) else (if ((nI 1)) < (x2) then some (((-1)), h) else cl (f_X0_caughtPart x1 x2 h) fun v_5 h_6 => some ((v_5), h_6))))
def f_X11_isPlace (x0 : Int32) (h : CH) : Option Int32 :=
  (if (x0) < 0 then some (nI 0) else clp (f_X11_isYear ((x0) / ((nI 100))) h) fun v_2 => (if (v_2) = 0 then some (nI 0) else (if (((x0) / ((nI 10))) - ((x0) / ((nI 10))) / ((nI 10)) * ((nI 10))) < ((nI 4)) then some (nI 1) else some (nI 0))))
def f_X2_tell_71 (x1 : Int32) (x2 : Int32) (x3 : Int32) (x4 : Int32) (h : CH) : Option (Int32 × CH) :=
  (if (h.1 71 0) < ((nI 40)) then wrA h 72 40 (h.1 71 0) (x1) fun h_2 => wrA h_2 73 40 (h_2.1 71 0) (x2) fun h_3 => wrA h_3 74 40 (h_3.1 71 0) (x3) fun h_4 => wrA h_4 75 40 (h_4.1 71 0) (x4) fun h_5 => wrA h_5 76 40 (h_5.1 71 0) (h_5.1 71 1) fun h_6 => wrA h_6 77 40 (h_6.1 71 0) ((-1)) fun h_7 => wrF h_7 71 0 ((h_7.1 71 0) + ((nI 1))) fun h_8 => some (((h_8.1 71 0) - ((nI 1))), h_8) else some (((-1)), h))
def f_X11_paper (x1 : Int32) (x2 : Int32) (x3 : Int32) (x4 : Int32) (h : CH) : Option (Int32 × CH) :=
  clp (f_X9_has_7 x1 h) fun v_1 => (if (v_1) = 0 then some (((-1)), h) else clp (f_X9_has_7 x2 h) fun v_3 => (if (v_3) = 0 then some (((-1)), h) else clp (f_X11_isShare x3 h) fun v_5 => (if (v_5) = 0 then some (((-1)), h) else clp (f_X11_isPlace x4 h) fun v_7 => (if (v_7) = 0 then some (((-1)), h) else cl (f_X2_tell_71 x1 x2 x3 x4 h) fun v_9 h_10 => some ((v_9), h_10)))))
def f_X2_has_71 (x1 : Int32) (h : CH) : Option Int32 :=
  (if (x1) < 0 then some (nI 0) else (if (x1) < (h.1 71 0) then (if (x1) < ((nI 40)) then some (nI 1) else some (nI 0)) else some (nI 0)))
def f_X2_takeBack_71 (x1 : Int32) (h : CH) : Option (Int32 × CH) :=
  clp (f_X2_has_71 x1 h) fun v_1 => (if (v_1) = 0 then some ((nI 0), h) else rdA h 77 40 (x1) fun v_3 => (if (v_3) = ((-1)) then wrA h 77 40 (x1) (h.1 71 1) fun h_5 => some ((nI 1), h_5) else some ((nI 0), h)))
def f_X11_untell (x1 : Int32) (h : CH) : Option (Int32 × CH) :=
  cl (f_X2_takeBack_71 x1 h) fun v_1 h_2 => rz (v_1) ((v_1), h_2)
def f_X11_later (x1 : Int32) (h : CH) : Option (Int32 × CH) :=
  (if (x1) < 0 then some (((-1)), h) else (if ((nI 1000)) < (x1) then some (((-1)), h) else (if ((nI 100000)) < ((h.1 71 1) + (x1)) then some (((-1)), h) else wrF h 71 1 ((h.1 71 1) + (x1)) fun h_4 => some ((h_4.1 71 1), h_4))))
def f_X2_counts_71 (x1 : Int32) (x2 : Int32) (h : CH) : Option Int32 :=
  clp (f_X2_has_71 x1 h) fun v_1 => (if (v_1) = 0 then some (nI 0) else rdA h 76 40 (x1) fun v_3 => (if (x2) < (v_3) then some (nI 0) else rdA h 77 40 (x1) fun v_5 => jn (some (nI 1)) fun (j_6 : Option Int32) => (if (v_5) = ((-1)) then j_6 else rdA h 77 40 (x1) fun v_8 => (if (x2) < (v_8) then j_6 else some (nI 0)))))
def f_X2_printerOf_71 (x1 : Int32) (h : CH) : Option Int32 :=
  clp (f_X2_has_71 x1 h) fun v_1 => (if (v_1) = 0 then some ((-1)) else rdA h 75 40 (x1) fun v_3 => some (((v_3) / ((nI 10))) - ((v_3) / ((nI 10))) / ((nI 10)) * ((nI 10))))
def f_X2_faceOf_71 (x1 : Int32) (h : CH) : Option Int32 :=
  clp (f_X2_has_71 x1 h) fun v_1 => (if (v_1) = 0 then some ((-1)) else rdA h 72 40 (x1) fun v_3 => some (v_3))
def f_X2_otherOf_71 (x1 : Int32) (h : CH) : Option Int32 :=
  clp (f_X2_has_71 x1 h) fun v_1 => (if (v_1) = 0 then some ((-1)) else rdA h 73 40 (x1) fun v_3 => some (v_3))
def f_X2_shareOf_71 (x1 : Int32) (h : CH) : Option Int32 :=
  clp (f_X2_has_71 x1 h) fun v_1 => (if (v_1) = 0 then some ((nI 0)) else rdA h 74 40 (x1) fun v_3 => some (v_3))
def f_X7_compareMixes_L2 (x1 : Int32) (x2 : Int32) : Nat → Int32 → CH → Option (Unit × CH)
  | 0, _, _ => none
  | n + 1, x3, h =>
    (if (x3) < ((nI 10)) then cl (f_X0_develop (h.1 121 8) x1 x3 x2 h) fun _ h_2 => clp (f_X9_apart_7 122 80 h_2) fun v_3 => jn (fun (h_4 : CH) => f_X7_compareMixes_L2 x1 x2 n (x3 + (nI 1)) h_4) fun (j_5 : CH → Option (Unit × CH)) => jn (wrA h_2 123 16 (x1) (v_3) fun h_7 => wrA h_7 124 16 (x1) (x3) fun h_8 => j_5 h_8) fun (j_6 : Option (Unit × CH)) => (if (x3) = ((nI 1)) then j_6 else rdA h_2 123 16 (x1) fun v_10 => (if (v_3) < (v_10) then j_6 else j_5 h_2)) else some ((), h))
def f_X7_compareMixes (x1 : Int32) (x2 : Int32) (h : CH) : Option (Unit × CH) :=
  f_X7_compareMixes_L2 (x1) (x2) FU ((nI 1)) h
def f_X7_foundFar  (h : CH) : Option Int32 :=
  clp (f_X9_has_7 (h.1 121 9) h) fun v_1 => (if (v_1) = 0 then some ((-1)) else rdA h 123 16 (h.1 121 9) fun v_3 => some (v_3))
def f_X7_seek_L93 (x2 : Int32) : Nat → Int32 → CH → Option (Unit × CH)
  | 0, _, _ => none
  | n + 1, x3, h =>
    (if (x3) < (h.1 7 2) then (if (x3) < ((nI 16)) then jn (fun (h_13 : CH) => f_X7_seek_L93 x2 n (x3 + (nI 1)) h_13) fun (j_14 : CH → Option (Unit × CH)) => (if (x3) = (h.1 121 8) then j_14 h else cl (f_X7_compareMixes x3 x2 h) fun _ h_16 => jn (wrF h_16 121 9 (x3) fun h_18 => j_14 h_18) fun (j_17 : Option (Unit × CH)) => (if (h_16.1 121 9) = ((-1)) then j_17 else rdA h_16 123 16 (x3) fun v_20 => clp (f_X7_foundFar h_16) fun v_21 => (if (v_20) < (v_21) then j_17 else j_14 h_16))) else some ((), h)) else some ((), h))
def f_X7_seek (x1 : Int32) (h : CH) : Option (Unit × CH) :=
  clp (f_X2_printerOf_71 x1 h) fun v_1 => clp (f_X2_faceOf_71 x1 h) fun v_2 => wrF h 121 8 (v_2) fun h_3 => clp (f_X2_otherOf_71 x1 h_3) fun v_4 => clp (f_X2_shareOf_71 x1 h_3) fun v_5 => cl (f_X0_developInto 122 (h_3.1 121 8) v_4 v_5 v_1 h_3) fun _ h_6 => cl (f_X0_develop (h_6.1 121 8) (h_6.1 121 8) ((nI 10)) v_1 h_6) fun _ h_7 => clp (f_X9_apart_7 122 80 h_7) fun v_8 => wrF h_7 121 7 (v_8) fun h_9 => wrF h_9 121 9 ((-1)) fun h_10 => f_X7_seek_L93 (v_1) FU ((nI 0)) h_10
def f_X7_foundShare  (h : CH) : Option Int32 :=
  clp (f_X9_has_7 (h.1 121 9) h) fun v_1 => (if (v_1) = 0 then some ((-1)) else rdA h 124 16 (h.1 121 9) fun v_3 => some (v_3))
def f_X7_isSure_L15 (x1 : Int32) (h : CH) : Nat → Int32 → Option Int32
  | 0, _ => none
  | n + 1, x2 =>
    jn ((if (x1) < (h.1 121 7) then some (nI 1) else some (nI 0))) fun (j_2 : Option Int32) => (if (x2) < (h.1 7 2) then (if (x2) < ((nI 16)) then jn (f_X7_isSure_L15 x1 h n (x2 + (nI 1))) fun (j_6 : Option Int32) => (if (x2) = (h.1 121 8) then j_6 else (if (x2) = (h.1 121 9) then j_6 else rdA h 123 16 (x2) fun v_9 => (if (x1) < (v_9) then j_6 else some (nI 0)))) else j_2) else j_2)
def f_X7_isSure  (h : CH) : Option Int32 :=
  clp (f_X7_foundFar h) fun v_1 => f_X7_isSure_L15 ((v_1) + (h.1 7 1)) h FU ((nI 0))
def f_X11_behind (x1 : Int32) (x2 : Int32) (x3 : Int32) (h : CH) : Option (Int32 × CH) :=
  (if (x2) < 0 then some (((-1)), h) else (if ((nI 3)) < (x2) then some (((-1)), h) else clp (f_X2_counts_71 x1 x3 h) fun v_3 => (if (v_3) = 0 then some (((-1)), h) else (if (h.1 7 2) < ((nI 2)) then some (((-1)), h) else cl (f_X7_seek x1 h) fun _ h_6 => (if (x2) = (nI 0) then some ((h_6.1 121 9), h_6) else (if (x2) = (nI 1) then clp (f_X7_foundShare h_6) fun v_9 => some ((v_9), h_6) else (if (x2) = (nI 2) then clp (f_X7_foundFar h_6) fun v_11 => some ((v_11), h_6) else clp (f_X7_isSure h_6) fun v_12 => (if (v_12) = 0 then some (((nI 0)), h_6) else some (((nI 1)), h_6)))))))))
def f_X9_knowEachOther_7 (x1 : Int32) (x2 : Int32) (h : CH) : Option Int32 :=
  clp (f_X9_has_7 x1 h) fun v_1 => (if (v_1) = 0 then some (nI 0) else clp (f_X9_has_7 x2 h) fun v_3 => (if (v_3) = 0 then some (nI 0) else rdA h 28 16 (x1) fun v_5 => (if (((v_5) >>> ((x2) &&& 31)) &&& ((nI 1))) = ((nI 1)) then some (nI 1) else some (nI 0))))
def f_X2_streetOf_71 (x1 : Int32) (h : CH) : Option Int32 :=
  clp (f_X2_has_71 x1 h) fun v_1 => (if (v_1) = 0 then some ((-1)) else rdA h 75 40 (x1) fun v_3 => some ((v_3) - (v_3) / ((nI 10)) * ((nI 10))))
def f_X2_yearOf_71 (x1 : Int32) (h : CH) : Option Int32 :=
  clp (f_X2_has_71 x1 h) fun v_1 => (if (v_1) = 0 then some ((nI 0)) else rdA h 75 40 (x1) fun v_3 => some ((v_3) / ((nI 100))))
def f_X4_isSameCorner (x1 : Int32) (x2 : Int32) (h : CH) : Option Int32 :=
  clp (f_X2_printerOf_71 x1 h) fun v_1 => clp (f_X2_printerOf_71 x2 h) fun v_2 => (if (v_1) = (v_2) then clp (f_X2_streetOf_71 x1 h) fun v_4 => clp (f_X2_streetOf_71 x2 h) fun v_5 => (if (v_4) = (v_5) then clp (f_X2_yearOf_71 x1 h) fun v_7 => clp (f_X2_yearOf_71 x2 h) fun v_8 => (if ((nI 2)) < (ab ((v_7) - (v_8))) then some (nI 0) else some (nI 1)) else some (nI 0)) else some (nI 0))
def f_X4_hang (x1 : Int32) (x2 : Int32) (h : CH) : Option Int32 :=
  clp (f_X2_faceOf_71 x1 h) fun v_1 => clp (f_X2_faceOf_71 x2 h) fun v_2 => jn (some (nI 1)) fun (j_3 : Option Int32) => (if (v_1) = (v_2) then j_3 else clp (f_X9_knowEachOther_7 v_1 v_2 h) fun v_5 => (if (v_5) = 0 then clp (f_X4_isSameCorner x1 x2 h) fun v_7 => (if (v_7) = 0 then some (nI 0) else j_3) else j_3))
def f_X4_gather_L35 (x1 : Int32) (x2 : Int32) (x4 : Int32) (k125 : Int32 → CH → Option (Unit × CH)) : Nat → Int32 → Int32 → CH → Option (Unit × CH)
  | 0, _, _, _ => none
  | n + 1, x3, x5, h =>
    (if (x5) < (h.1 71 0) then (if (x5) < ((nI 40)) then rdA h 127 40 (x5) fun v_11 => jn (fun (x3_12 : Int32) (h_13 : CH) => f_X4_gather_L35 x1 x2 x4 k125 n (x3_12) (x5 + (nI 1)) h_13) fun (j_14 : Int32 → CH → Option (Unit × CH)) => (if (v_11) = ((-1)) then clp (f_X2_counts_71 x5 x2 h) fun v_16 => (if (v_16) = 0 then j_14 (x3) h else rdA h 129 40 (x4) fun v_18 => clp (f_X4_hang v_18 x5 h) fun v_19 => (if (v_19) = 0 then j_14 (x3) h else (if (x3) < ((nI 40)) then wrA h 127 40 (x5) (x1) fun h_22 => wrA h_22 129 40 (x3) (x5) fun h_23 => j_14 (x3 + (nI 1)) h_23 else j_14 (x3) h))) else j_14 (x3) h) else k125 (x3) h) else k125 (x3) h)
def f_X4_gather_L19 (x1 : Int32) (x2 : Int32) : Nat → Int32 → Int32 → CH → Option (Unit × CH)
  | 0, _, _, _ => none
  | n + 1, x3, x4, h =>
    jn (wrA h 128 40 (x1) (x3) fun h_4 => some ((), h_4)) fun (j_3 : Option (Unit × CH)) => (if (x4) < (x3) then (if (x4) < ((nI 40)) then f_X4_gather_L35 (x1) (x2) (x4) (fun (x3_7 : Int32) (h_8 : CH) => f_X4_gather_L19 x1 x2 n (x3_7) (x4 + (nI 1)) h_8) FU (x3) ((nI 0)) h else j_3) else j_3)
def f_X4_gather (x1 : Int32) (x2 : Int32) (h : CH) : Option (Unit × CH) :=
  wrA h 129 40 ((nI 0)) (x1) fun h_1 => wrA h_1 127 40 (x1) (x1) fun h_2 => f_X4_gather_L19 (x1) (x2) FU ((nI 1)) ((nI 0)) h_2
def f_X4_greatestSize  (h : CH) : Option Int32 :=
  (if (h.1 126 6) < 0 then some ((nI 0)) else (if (h.1 126 6) < ((nI 40)) then rdA h 128 40 (h.1 126 6) fun v_3 => some (v_3) else some ((nI 0))))
def f_X4_part_L40 (x1 : Int32) : Nat → Int32 → CH → Option (Unit × CH)
  | 0, _, _ => none
  | n + 1, x2, h =>
    (if (x2) < (h.1 71 0) then (if (x2) < ((nI 40)) then rdA h 127 40 (x2) fun v_8 => jn (fun (h_9 : CH) => f_X4_part_L40 x1 n (x2 + (nI 1)) h_9) fun (j_10 : CH → Option (Unit × CH)) => (if (v_8) = ((-1)) then clp (f_X2_counts_71 x2 x1 h) fun v_12 => (if (v_12) = 0 then j_10 h else cl (f_X4_gather x2 x1 h) fun _ h_14 => wrF h_14 126 5 ((h_14.1 126 5) + ((nI 1))) fun h_15 => rdA h_15 128 40 (x2) fun v_16 => clp (f_X4_greatestSize h_15) fun v_17 => (if (v_17) < (v_16) then wrF h_15 126 6 (x2) fun h_19 => j_10 h_19 else j_10 h_15)) else j_10 h) else some ((), h)) else some ((), h))
def f_X4_part_L12 (x1 : Int32) : Nat → Int32 → CH → Option (Unit × CH)
  | 0, _, _ => none
  | n + 1, x2, h =>
    (if (x2) < ((nI 40)) then wrA h 127 40 (x2) ((-1)) fun h_4 => wrA h_4 128 40 (x2) ((nI 0)) fun h_5 => f_X4_part_L12 x1 n (x2 + (nI 1)) h_5 else f_X4_part_L40 (x1) FU ((nI 0)) h)
def f_X4_part (x1 : Int32) (h : CH) : Option (Unit × CH) :=
  wrF h 126 5 ((nI 0)) fun h_1 => wrF h_1 126 6 ((-1)) fun h_2 => f_X4_part_L12 (x1) FU ((nI 0)) h_2
def f_X11_rings (x1 : Int32) (x2 : Int32) (h : CH) : Option (Int32 × CH) :=
  (if (x1) < 0 then some (((-1)), h) else (if ((nI 2)) < (x1) then some (((-1)), h) else cl (f_X4_part x2 h) fun _ h_3 => (if (x1) = (nI 0) then some ((h_3.1 126 5), h_3) else (if (x1) = (nI 1) then clp (f_X4_greatestSize h_3) fun v_6 => some ((v_6), h_3) else some ((h_3.1 126 6), h_3)))))
def f_X4_sizeOfPartOf (x1 : Int32) (h : CH) : Option Int32 :=
  jn (fun (s_1 : Int32) => (if (s_1) < 0 then some ((-1)) else (if (s_1) < ((nI 40)) then rdA h 128 40 (s_1) fun v_5 => some (v_5) else some ((-1))))) fun (j_2 : Int32 → Option Int32) => jn (j_2 ((-1))) fun (j_6 : Option Int32) => (if (x1) < 0 then j_6 else (if (x1) < ((nI 40)) then rdA h 127 40 (x1) fun v_9 => j_2 (v_9) else j_6))
def f_X11_ring (x1 : Int32) (x2 : Int32) (h : CH) : Option (Int32 × CH) :=
  clp (f_X2_counts_71 x1 x2 h) fun v_1 => (if (v_1) = 0 then some (((-1)), h) else cl (f_X4_part x2 h) fun _ h_3 => clp (f_X4_sizeOfPartOf x1 h_3) fun v_4 => some ((v_4), h_3))
def f_X9_withFriends_7_L4 (x1 : Int32) (h : CH) : Nat → Int32 → Int32 → Option Int32
  | 0, _, _ => none
  | n + 1, x2, x3 =>
    (if (x3) < ((nI 16)) then jn (fun (x2_2 : Int32) => f_X9_withFriends_7_L4 x1 h n (x2_2) (x3 + (nI 1))) fun (j_3 : Int32 → Option Int32) => (if (((x1) >>> ((x3) &&& 31)) &&& ((nI 1))) = ((nI 1)) then rdA h 28 16 (x3) fun v_5 => j_3 ((x2) ||| (v_5)) else j_3 (x2)) else some (x2))
def f_X9_withFriends_7 (x1 : Int32) (h : CH) : Option Int32 :=
  f_X9_withFriends_7_L4 (x1) h FU (x1) ((nI 0))
def f_X9_steps_7_L7 (x2 : Int32) (h : CH) : Nat → Int32 → Int32 → Option Int32
  | 0, _, _ => none
  | n + 1, x3, x4 =>
    (if (x4) < ((nI 16)) then (if (((x3) >>> ((x2) &&& 31)) &&& ((nI 1))) = ((nI 1)) then some (x4) else clp (f_X9_withFriends_7 x3 h) fun v_3 => f_X9_steps_7_L7 x2 h n (v_3) (x4 + (nI 1))) else some ((-1)))
def f_X9_steps_7 (x1 : Int32) (x2 : Int32) (h : CH) : Option Int32 :=
  f_X9_steps_7_L7 (x2) h FU (((nI 1)) <<< ((x1) &&& 31)) ((nI 0))
def f_X11_between (x1 : Int32) (x2 : Int32) (h : CH) : Option Int32 :=
  clp (f_X9_has_7 x1 h) fun v_1 => (if (v_1) = 0 then some ((-1)) else clp (f_X9_has_7 x2 h) fun v_3 => (if (v_3) = 0 then some ((-1)) else clp (f_X9_steps_7 x1 x2 h) fun v_5 => some (v_5)))
def f_X2_isMixed_71 (x1 : Int32) (h : CH) : Option Int32 :=
  clp (f_X2_shareOf_71 x1 h) fun v_1 => clp (f_X2_faceOf_71 x1 h) fun v_2 => clp (f_X2_otherOf_71 x1 h) fun v_3 => (if (v_2) = (v_3) then some (nI 0) else (if (v_1) < ((nI 1)) then some (nI 0) else (if (v_1) < ((nI 10)) then some (nI 1) else some (nI 0))))
def f_X7_countShowing_L22 (x1 : Int32) : Nat → Int32 → CH → Option (Unit × CH)
  | 0, _, _ => none
  | n + 1, x2, h =>
    (if (x2) < (h.1 71 0) then clp (f_X2_printerOf_71 x2 h) fun v_4 => jn (fun (h_5 : CH) => f_X7_countShowing_L22 x1 n (x2 + (nI 1)) h_5) fun (j_6 : CH → Option (Unit × CH)) => (if (v_4) < 0 then j_6 h else (if (v_4) < ((nI 4)) then clp (f_X2_counts_71 x2 x1 h) fun v_9 => (if (v_9) = 0 then j_6 h else clp (f_X2_isMixed_71 x2 h) fun v_11 => (if (v_11) = 0 then j_6 h else clp (f_X2_faceOf_71 x2 h) fun v_13 => clp (f_X2_otherOf_71 x2 h) fun v_14 => clp (f_X2_shareOf_71 x2 h) fun v_15 => cl (f_X0_shown v_13 v_14 v_15 v_4 h) fun v_16 h_17 => rdA h_17 125 4 (v_4) fun v_18 => jn (fun (s_19 : Int32) (s_20 : Int32) (s_21 : Int32) => wrA h_17 125 4 (s_21) ((s_20) + (s_19)) fun h_23 => j_6 h_23) fun (j_22 : Int32 → Int32 → Int32 → Option (Unit × CH)) => (if (v_16) = 0 then j_22 ((nI 0)) (v_18) (v_4) else j_22 ((nI 1)) (v_18) (v_4)))) else j_6 h)) else some ((), h))
def f_X7_countShowing_L2 (x1 : Int32) : Nat → Int32 → CH → Option (Unit × CH)
  | 0, _, _ => none
  | n + 1, x2, h =>
    (if (x2) < ((nI 4)) then wrA h 125 4 (x2) ((nI 0)) fun h_2 => f_X7_countShowing_L2 x1 n (x2 + (nI 1)) h_2 else f_X7_countShowing_L22 (x1) FU ((nI 0)) h)
def f_X7_countShowing (x1 : Int32) (h : CH) : Option (Unit × CH) :=
  f_X7_countShowing_L2 (x1) FU ((nI 0)) h
def f_X7_showingOf_L4 (x1 : Int32) (h : CH) : Nat → Int32 → Int32 → Option Int32
  | 0, _, _ => none
  | n + 1, x2, x3 =>
    (if (x3) < ((nI 4)) then jn (fun (x2_2 : Int32) => f_X7_showingOf_L4 x1 h n (x2_2) (x3 + (nI 1))) fun (j_3 : Int32 → Option Int32) => (if (((x1) >>> ((x3) &&& 31)) &&& ((nI 1))) = ((nI 1)) then rdA h 125 4 (x3) fun v_5 => j_3 ((x2) + (v_5)) else j_3 (x2)) else some (x2))
def f_X7_showingOf (x1 : Int32) (h : CH) : Option Int32 :=
  f_X7_showingOf_L4 (x1) h FU ((nI 0)) ((nI 0))
def f_X9_costOf_7 (x1 : Int32) (h : CH) : Option Int32 :=
  (if (x1) < 0 then some ((nI 0)) else (if (x1) < ((nI 4)) then rdA h 30 4 (x1) fun v_3 => some (v_3) else some ((nI 0))))
def f_X7_costOf_L4 (x1 : Int32) (h : CH) : Nat → Int32 → Int32 → Option Int32
  | 0, _, _ => none
  | n + 1, x2, x3 =>
    (if (x3) < ((nI 4)) then jn (fun (x2_2 : Int32) => f_X7_costOf_L4 x1 h n (x2_2) (x3 + (nI 1))) fun (j_3 : Int32 → Option Int32) => (if (((x1) >>> ((x3) &&& 31)) &&& ((nI 1))) = ((nI 1)) then clp (f_X9_costOf_7 x3 h) fun v_5 => j_3 ((x2) + (v_5)) else j_3 (x2)) else some (x2))
def f_X7_costOf (x1 : Int32) (h : CH) : Option Int32 :=
  f_X7_costOf_L4 (x1) h FU ((nI 0)) ((nI 0))
def f_X7_look_L17 (x1 : Int32) : Nat → Int32 → CH → Option (Unit × CH)
  | 0, _, _ => none
  | n + 1, x3, h =>
    (if (x3) < ((nI 16)) then clp (f_X7_showingOf x3 h) fun v_5 => jn (fun (h_6 : CH) => f_X7_look_L17 x1 n (x3 + (nI 1)) h_6) fun (j_7 : CH → Option (Unit × CH)) => (if (h.1 121 11) < (v_5) then clp (f_X7_costOf x3 h) fun v_9 => (if (x1) < (v_9) then j_7 h else wrF h 121 10 (x3) fun h_11 => wrF h_11 121 11 (v_5) fun h_12 => j_7 h_12) else j_7 h) else some ((), h))
def f_X7_look (x1 : Int32) (x2 : Int32) (h : CH) : Option (Unit × CH) :=
  cl (f_X7_countShowing x2 h) fun _ h_1 => wrF h_1 121 10 ((nI 0)) fun h_2 => wrF h_2 121 11 ((nI 0)) fun h_3 => f_X7_look_L17 (x1) FU ((nI 0)) h_3
def f_X11_looks (x1 : Int32) (x2 : Int32) (x3 : Int32) (h : CH) : Option (Int32 × CH) :=
  (if (x1) < 0 then some (((-1)), h) else (if ((nI 999)) < (x1) then some (((-1)), h) else (if (x2) < 0 then some (((-1)), h) else (if ((nI 1)) < (x2) then some (((-1)), h) else cl (f_X7_look x1 x3 h) fun _ h_5 => (if (x2) = 0 then some ((h_5.1 121 10), h_5) else some ((h_5.1 121 11), h_5))))))
def f_X11_isPrice (x0 : Int32) (h : CH) : Option Int32 :=
  (if (x0) < 0 then some (nI 0) else (if ((nI 99)) < (x0) then some (nI 0) else some (nI 1)))
def f_X3_falseOf_L5 (x1 : Int32) (x2 : Int32) (h : CH) : Nat → Int32 → Int32 → Option Int32
  | 0, _, _ => none
  | n + 1, x3, x4 =>
    (if (x4) < (h.1 7 2) then jn (fun (x3_2 : Int32) => f_X3_falseOf_L5 x1 x2 h n (x3_2) (x4 + (nI 1))) fun (j_3 : Int32 → Option Int32) => (if (x4) = (x1) then j_3 (x3) else clp (f_X1_apartFromPicture x1 x4 h) fun v_5 => (if (x2) < (v_5) then j_3 (x3) else j_3 (x3 + (nI 1)))) else some (x3))
def f_X3_falseOf (x1 : Int32) (x2 : Int32) (h : CH) : Option Int32 :=
  f_X3_falseOf_L5 (x1) (x2) h FU ((nI 0)) ((nI 0))
def f_X3_falseByBars_L4 (h : CH) : Nat → Int32 → Int32 → Option Int32
  | 0, _, _ => none
  | n + 1, x1, x2 =>
    (if (x2) < (h.1 7 2) then clp (f_X9_kindOf_7 x2 h) fun v_2 => jn (fun (x1_3 : Int32) => f_X3_falseByBars_L4 h n (x1_3) (x2 + (nI 1))) fun (j_4 : Int32 → Option Int32) => (if (v_2) < 0 then j_4 (x1) else (if (v_2) < ((nI 4)) then rdA h 118 4 (v_2) fun v_7 => clp (f_X3_falseOf x2 v_7 h) fun v_8 => j_4 ((x1) + (v_8)) else j_4 (x1))) else some (x1))
def f_X3_falseByBars  (h : CH) : Option Int32 :=
  f_X3_falseByBars_L4 h FU ((nI 0)) ((nI 0))
def f_X3_heldBy_L5 (x1 : Int32) (x2 : Int32) (h : CH) : Nat → Int32 → Int32 → Option Int32
  | 0, _, _ => none
  | n + 1, x3, x4 =>
    (if (x4) < (h.1 7 2) then jn (fun (x3_2 : Int32) => f_X3_heldBy_L5 x1 x2 h n (x3_2) (x4 + (nI 1))) fun (j_3 : Int32 → Option Int32) => jn (clp (f_X1_apartFromPicture x4 x4 h) fun v_5 => (if (x1) < (v_5) then j_3 (x3 + (nI 1)) else j_3 (x3))) fun (j_4 : Option Int32) => (if (x2) = ((-1)) then j_4 else clp (f_X9_kindOf_7 x4 h) fun v_8 => (if (v_8) = (x2) then j_4 else j_3 (x3))) else some (x3))
def f_X3_heldBy (x1 : Int32) (x2 : Int32) (h : CH) : Option Int32 :=
  f_X3_heldBy_L5 (x1) (x2) h FU ((nI 0)) ((nI 0))
def f_X3_costOf_L3 (x1 : Int32) (x2 : Int32) (x3 : Int32) : Nat → Int32 → CH → Option (Int32 × CH)
  | 0, _, _ => none
  | n + 1, x4, h =>
    (if (x4) < ((nI 4)) then wrA h 118 4 (x4) (x1) fun h_2 => f_X3_costOf_L3 x1 x2 x3 n (x4 + (nI 1)) h_2 else clp (f_X3_falseByBars h) fun v_3 => clp (f_X3_heldBy x1 ((-1)) h) fun v_4 => some ((((x2) * (v_3)) + ((x3) * (v_4))), h))
def f_X3_costOf (x1 : Int32) (x2 : Int32) (x3 : Int32) (h : CH) : Option (Int32 × CH) :=
  f_X3_costOf_L3 (x1) (x2) (x3) FU ((nI 0)) h
def f_X11_cost (x1 : Int32) (x2 : Int32) (x3 : Int32) (x4 : Int32) (x5 : Int32) (h : CH) : Option (Int32 × CH) :=
  (if (x1) < 0 then some (((-1)), h) else (if ((nI 800)) < (x1) then some (((-1)), h) else clp (f_X11_isPrice x2 h) fun v_3 => (if (v_3) = 0 then some (((-1)), h) else clp (f_X11_isPrice x3 h) fun v_5 => (if (v_5) = 0 then some (((-1)), h) else clp (f_X11_isWhen x4 x5 h) fun v_7 => (if (v_7) = 0 then some (((-1)), h) else cl (f_X1_open x4 x5 h) fun _ h_9 => cl (f_X3_costOf x1 x2 x3 h_9) fun v_10 h_11 => some ((v_10), h_11))))))
def f_X3_countByFar_L44 (x1 : Int32) (k120 : CH → Option (Unit × CH)) : Nat → Int32 → CH → Option (Unit × CH)
  | 0, _, _ => none
  | n + 1, x2, h =>
    (if (x2) < (h.1 7 2) then clp (f_X1_apartFromPicture x1 x2 h) fun v_5 => jn (fun (h_6 : CH) => f_X3_countByFar_L44 x1 k120 n (x2 + (nI 1)) h_6) fun (j_7 : CH → Option (Unit × CH)) => (if (v_5) < 0 then j_7 h else (if ((nI 800)) < (v_5) then j_7 h else rdA h 119 801 (v_5) fun v_10 => jn (fun (s_11 : Int32) (s_12 : Int32) (s_13 : Int32) => wrA h 119 801 (s_13) ((s_12) + (s_11)) fun h_15 => rdA h_15 120 801 (v_5) fun v_16 => jn (fun (s_17 : Int32) (s_18 : Int32) (s_19 : Int32) => wrA h_15 120 801 (s_19) ((s_18) + (s_17)) fun h_21 => j_7 h_21) fun (j_20 : Int32 → Int32 → Int32 → Option (Unit × CH)) => (if (x1) = (x2) then j_20 ((nI 1)) (v_16) (v_5) else j_20 ((nI 0)) (v_16) (v_5))) fun (j_14 : Int32 → Int32 → Int32 → Option (Unit × CH)) => (if (x1) = (x2) then j_14 ((nI 0)) (v_10) (v_5) else j_14 ((nI 1)) (v_10) (v_5)))) else k120 h)
def f_X3_countByFar_L31  : Nat → Int32 → CH → Option (Unit × CH)
  | 0, _, _ => none
  | n + 1, x1, h =>
    (if (x1) < (h.1 7 2) then f_X3_countByFar_L44 (x1) (fun (h_3 : CH) => f_X3_countByFar_L31 n (x1 + (nI 1)) h_3) FU ((nI 0)) h else some ((), h))
def f_X3_countByFar_L2  : Nat → Int32 → CH → Option (Unit × CH)
  | 0, _, _ => none
  | n + 1, x1, h =>
    (if ((nI 800)) < (x1) then f_X3_countByFar_L31 FU ((nI 0)) h else wrA h 119 801 (x1) ((nI 0)) fun h_24 => wrA h_24 120 801 (x1) ((nI 0)) fun h_25 => f_X3_countByFar_L2 n (x1 + (nI 1)) h_25)
def f_X3_countByFar  (h : CH) : Option (Unit × CH) :=
  f_X3_countByFar_L2 FU ((nI 0)) h
def f_X3_cheapest_L24 (x1 : Int32) (x2 : Int32) (h : CH) : Nat → Int32 → Int32 → Int32 → Int32 → Int32 → Option (Int32 × CH)
  | 0, _, _, _, _, _ => none
  | n + 1, x3, x4, x5, x6, x7 =>
    (if ((nI 800)) < (x7) then some ((x3), h) else rdA h 119 801 (x7) fun v_3 => rdA h 120 801 (x7) fun v_4 => jn (fun (x3_5 : Int32) (x4_6 : Int32) => f_X3_cheapest_L24 x1 x2 h n (x3_5) (x4_6) ((x5) + (v_3)) ((x6) - (v_4)) (x7 + (nI 1))) fun (j_7 : Int32 → Int32 → Option (Int32 × CH)) => jn (j_7 (x7) (((x1) * ((x5) + (v_3))) + ((x2) * ((x6) - (v_4))))) fun (j_8 : Option (Int32 × CH)) => (if (x7) = 0 then j_8 else (if (((x1) * ((x5) + (v_3))) + ((x2) * ((x6) - (v_4)))) < (x4) then j_8 else j_7 (x3) (x4))))
def f_X3_cheapest (x1 : Int32) (x2 : Int32) (h : CH) : Option (Int32 × CH) :=
  cl (f_X3_countByFar h) fun _ h_1 => f_X3_cheapest_L24 (x1) (x2) h_1 FU ((nI 0)) ((nI 0)) ((nI 0)) (h_1.1 7 2) ((nI 0))
def f_X11_bestBar (x1 : Int32) (x2 : Int32) (x3 : Int32) (x4 : Int32) (h : CH) : Option (Int32 × CH) :=
  clp (f_X11_isPrice x1 h) fun v_1 => (if (v_1) = 0 then some (((-1)), h) else clp (f_X11_isPrice x2 h) fun v_3 => (if (v_3) = 0 then some (((-1)), h) else clp (f_X11_isWhen x3 x4 h) fun v_5 => (if (v_5) = 0 then some (((-1)), h) else cl (f_X1_open x3 x4 h) fun _ h_7 => cl (f_X3_cheapest x1 x2 h_7) fun v_8 h_9 => some ((v_8), h_9))))
def f_X9_countOfKind_7_L4 (x1 : Int32) (h : CH) : Nat → Int32 → Int32 → Option Int32
  | 0, _, _ => none
  | n + 1, x2, x3 =>
    (if (x3) < (h.1 7 2) then clp (f_X9_kindOf_7 x3 h) fun v_2 => jn (fun (x2_3 : Int32) => f_X9_countOfKind_7_L4 x1 h n (x2_3) (x3 + (nI 1))) fun (j_4 : Int32 → Option Int32) => (if (v_2) = (x1) then j_4 (x2 + (nI 1)) else j_4 (x2)) else some (x2))
def f_X9_countOfKind_7 (x1 : Int32) (h : CH) : Option Int32 :=
  f_X9_countOfKind_7_L4 (x1) h FU ((nI 0)) ((nI 0))
def f_X3_ownBar_L40 (x1 : Int32) (x2 : Int32) (x3 : Int32) (h : CH) : Nat → Int32 → Int32 → Option Int32
  | 0, _, _ => none
  | n + 1, x4, x5 =>
    (if (x5) < (h.1 7 2) then clp (f_X1_apartFromPicture x5 x5 h) fun v_6 => clp (f_X9_kindOf_7 x5 h) fun v_7 => jn (fun (x4_8 : Int32) => f_X3_ownBar_L40 x1 x2 x3 h n (x4_8) (x5 + (nI 1))) fun (j_9 : Int32 → Option Int32) => (if (v_7) = (x1) then (if (v_6) < (x4) then clp (f_X3_heldBy v_6 x1 h) fun v_12 => (if ((x2) * (x3)) < ((v_12) * ((nI 100))) then j_9 (x4) else j_9 (v_6)) else j_9 (x4)) else j_9 (x4)) else some (x4))
def f_X3_ownBar (x1 : Int32) (x2 : Int32) (h : CH) : Option Int32 :=
  clp (f_X9_countOfKind_7 x1 h) fun v_1 => (if (v_1) = 0 then some ((-1)) else clp (f_X3_heldBy ((nI 0)) x1 h) fun v_3 => (if ((x2) * (v_1)) < ((v_3) * ((nI 100))) then f_X3_ownBar_L40 (x1) (x2) (v_1) h FU ((nI 800)) ((nI 0)) else some ((nI 0))))
def f_X3_falseByOwnBars_L2 (x1 : Int32) : Nat → Int32 → CH → Option (Int32 × CH)
  | 0, _, _ => none
  | n + 1, x2, h =>
    (if (x2) < ((nI 4)) then clp (f_X3_ownBar x2 x1 h) fun v_2 => wrA h 118 4 (x2) (v_2) fun h_3 => f_X3_falseByOwnBars_L2 x1 n (x2 + (nI 1)) h_3 else clp (f_X3_falseByBars h) fun v_4 => some ((v_4), h))
def f_X3_falseByOwnBars (x1 : Int32) (h : CH) : Option (Int32 × CH) :=
  f_X3_falseByOwnBars_L2 (x1) FU ((nI 0)) h
def f_X11_fair (x1 : Int32) (x2 : Int32) (x3 : Int32) (x4 : Int32) (h : CH) : Option (Int32 × CH) :=
  (if (x1) < 0 then some (((-1)), h) else (if ((nI 100)) < (x1) then some (((-1)), h) else clp (f_X11_isWhen x2 x3 h) fun v_3 => (if (v_3) = 0 then some (((-1)), h) else (if (x4) < 0 then some (((-1)), h) else (if ((nI 4)) < (x4) then some (((-1)), h) else cl (f_X1_open x2 x3 h) fun _ h_7 => (if (x4) < ((nI 4)) then clp (f_X3_ownBar x4 x1 h_7) fun v_9 => some ((v_9), h_7) else cl (f_X3_falseByOwnBars x1 h_7) fun v_10 h_11 => some ((v_10), h_11)))))))
def f_X9_leastBetween_7_L24 (x1 : Int32) (x2 : Int32) (x4 : Int32) (h : CH) (k112 : Int32 → Option Int32) : Nat → Int32 → Int32 → Option Int32
  | 0, _, _ => none
  | n + 1, x3, x5 =>
    (if (x5) < (h.1 7 2) then (if (x5) < ((nI 16)) then jn (fun (x3_6 : Int32) => f_X9_leastBetween_7_L24 x1 x2 x4 h k112 n (x3_6) (x5 + (nI 1))) fun (j_7 : Int32 → Option Int32) => (if (x4) = (x5) then j_7 (x3) else rdA h 9 16 (x4) fun v_9 => (if (v_9) = (x1) then rdA h 9 16 (x5) fun v_11 => (if (v_11) = (x2) then rdQ 12 16 (x4) fun q_13 => rdQ 12 16 (x5) fun q_14 => clp (f_X9_apart_7 q_13 q_14 h) fun v_15 => jn (fun (s_16 : Int32) => j_7 (s_16)) fun (j_17 : Int32 → Option Int32) => (if (x3) = ((-1)) then j_17 (v_15) else j_17 (mn (x3) (v_15))) else j_7 (x3)) else j_7 (x3))) else k112 (x3)) else k112 (x3))
def f_X9_leastBetween_7_L5 (x1 : Int32) (x2 : Int32) (h : CH) : Nat → Int32 → Int32 → Option Int32
  | 0, _, _ => none
  | n + 1, x3, x4 =>
    (if (x4) < (h.1 7 2) then (if (x4) < ((nI 16)) then f_X9_leastBetween_7_L24 (x1) (x2) (x4) h (fun (x3_3 : Int32) => f_X9_leastBetween_7_L5 x1 x2 h n (x3_3) (x4 + (nI 1))) FU (x3) ((nI 0)) else some (x3)) else some (x3))
def f_X9_leastBetween_7 (x1 : Int32) (x2 : Int32) (h : CH) : Option Int32 :=
  f_X9_leastBetween_7_L5 (x1) (x2) h FU ((-1)) ((nI 0))
def f_X11_measure (x1 : Int32) (x2 : Int32) (h : CH) : Option Int32 :=
  (if (x1) < 0 then some ((-1)) else (if (x1) < ((nI 4)) then (if (x2) < 0 then some ((-1)) else (if (x2) < ((nI 4)) then clp (f_X9_leastBetween_7 x1 x2 h) fun v_5 => some (v_5) else some ((-1)))) else some ((-1))))
def f_X11_boxAt (x1 : Int32) (h : CH) : Option (Option Nat) :=
  jn (some (none : Option Nat)) fun (j_1 : Option (Option Nat)) => (if (x1) < 0 then j_1 else (if (x1) < ((nI 3)) then rdO 78 3 (x1) fun r_4 => some r_4 else j_1))
def f_X2_copyFrom_130_71_L18  : Nat → Int32 → CH → Option (Unit × CH)
  | 0, _, _ => none
  | n + 1, x2, h =>
    (if (x2) < (h.1 130 0) then (if (x2) < ((nI 40)) then rdA h 72 40 (x2) fun v_5 => wrA h 131 40 (x2) (v_5) fun h_6 => rdA h_6 73 40 (x2) fun v_7 => wrA h_6 132 40 (x2) (v_7) fun h_8 => rdA h_8 74 40 (x2) fun v_9 => wrA h_8 133 40 (x2) (v_9) fun h_10 => rdA h_10 75 40 (x2) fun v_11 => wrA h_10 134 40 (x2) (v_11) fun h_12 => rdA h_12 76 40 (x2) fun v_13 => wrA h_12 135 40 (x2) (v_13) fun h_14 => rdA h_14 77 40 (x2) fun v_15 => wrA h_14 136 40 (x2) (v_15) fun h_16 => f_X2_copyFrom_130_71_L18 n (x2 + (nI 1)) h_16 else some ((), h)) else some ((), h))
def f_X2_copyFrom_130_71  (h : CH) : Option (Unit × CH) :=
  wrF h 130 0 (h.1 71 0) fun h_1 => wrF h_1 130 1 (h_1.1 71 1) fun h_2 => f_X2_copyFrom_130_71_L18 FU ((nI 0)) h_2
def f_X2_copyFrom_137_71_L18  : Nat → Int32 → CH → Option (Unit × CH)
  | 0, _, _ => none
  | n + 1, x2, h =>
    (if (x2) < (h.1 137 0) then (if (x2) < ((nI 40)) then rdA h 72 40 (x2) fun v_5 => wrA h 138 40 (x2) (v_5) fun h_6 => rdA h_6 73 40 (x2) fun v_7 => wrA h_6 139 40 (x2) (v_7) fun h_8 => rdA h_8 74 40 (x2) fun v_9 => wrA h_8 140 40 (x2) (v_9) fun h_10 => rdA h_10 75 40 (x2) fun v_11 => wrA h_10 141 40 (x2) (v_11) fun h_12 => rdA h_12 76 40 (x2) fun v_13 => wrA h_12 142 40 (x2) (v_13) fun h_14 => rdA h_14 77 40 (x2) fun v_15 => wrA h_14 143 40 (x2) (v_15) fun h_16 => f_X2_copyFrom_137_71_L18 n (x2 + (nI 1)) h_16 else some ((), h)) else some ((), h))
def f_X2_copyFrom_137_71  (h : CH) : Option (Unit × CH) :=
  wrF h 137 0 (h.1 71 0) fun h_1 => wrF h_1 137 1 (h_1.1 71 1) fun h_2 => f_X2_copyFrom_137_71_L18 FU ((nI 0)) h_2
def f_X2_copyFrom_144_71_L18  : Nat → Int32 → CH → Option (Unit × CH)
  | 0, _, _ => none
  | n + 1, x2, h =>
    (if (x2) < (h.1 144 0) then (if (x2) < ((nI 40)) then rdA h 72 40 (x2) fun v_5 => wrA h 145 40 (x2) (v_5) fun h_6 => rdA h_6 73 40 (x2) fun v_7 => wrA h_6 146 40 (x2) (v_7) fun h_8 => rdA h_8 74 40 (x2) fun v_9 => wrA h_8 147 40 (x2) (v_9) fun h_10 => rdA h_10 75 40 (x2) fun v_11 => wrA h_10 148 40 (x2) (v_11) fun h_12 => rdA h_12 76 40 (x2) fun v_13 => wrA h_12 149 40 (x2) (v_13) fun h_14 => rdA h_14 77 40 (x2) fun v_15 => wrA h_14 150 40 (x2) (v_15) fun h_16 => f_X2_copyFrom_144_71_L18 n (x2 + (nI 1)) h_16 else some ((), h)) else some ((), h))
def f_X2_copyFrom_144_71  (h : CH) : Option (Unit × CH) :=
  wrF h 144 0 (h.1 71 0) fun h_1 => wrF h_1 144 1 (h_1.1 71 1) fun h_2 => f_X2_copyFrom_144_71_L18 FU ((nI 0)) h_2
def f_X11_image (x1 : Int32) (h : CH) : Option (Int32 × CH) :=
  clp (f_X11_boxAt x1 h) fun v_1 => (if v_1 = none then some (((-1)), h) else if v_1 = some 130 then cl (f_X2_copyFrom_130_71 h) fun _ h_3 => wrG h_3 130 2 ((nI 1)) fun h_4 => some ((h_4.1 71 0), h_4) else if v_1 = some 137 then cl (f_X2_copyFrom_137_71 h) fun _ h_6 => wrG h_6 137 2 ((nI 1)) fun h_7 => some ((h_7.1 71 0), h_7) else if v_1 = some 144 then cl (f_X2_copyFrom_144_71 h) fun _ h_9 => wrG h_9 144 2 ((nI 1)) fun h_10 => some ((h_10.1 71 0), h_10) else none)
def f_X2_copyFrom_71_130_L18  : Nat → Int32 → CH → Option (Unit × CH)
  | 0, _, _ => none
  | n + 1, x2, h =>
    (if (x2) < (h.1 71 0) then (if (x2) < ((nI 40)) then rdA h 131 40 (x2) fun v_5 => wrA h 72 40 (x2) (v_5) fun h_6 => rdA h_6 132 40 (x2) fun v_7 => wrA h_6 73 40 (x2) (v_7) fun h_8 => rdA h_8 133 40 (x2) fun v_9 => wrA h_8 74 40 (x2) (v_9) fun h_10 => rdA h_10 134 40 (x2) fun v_11 => wrA h_10 75 40 (x2) (v_11) fun h_12 => rdA h_12 135 40 (x2) fun v_13 => wrA h_12 76 40 (x2) (v_13) fun h_14 => rdA h_14 136 40 (x2) fun v_15 => wrA h_14 77 40 (x2) (v_15) fun h_16 => f_X2_copyFrom_71_130_L18 n (x2 + (nI 1)) h_16 else some ((), h)) else some ((), h))
def f_X2_copyFrom_71_130  (h : CH) : Option (Unit × CH) :=
  wrF h 71 0 (h.1 130 0) fun h_1 => wrF h_1 71 1 (h_1.1 130 1) fun h_2 => f_X2_copyFrom_71_130_L18 FU ((nI 0)) h_2
def f_X2_copyFrom_71_137_L18  : Nat → Int32 → CH → Option (Unit × CH)
  | 0, _, _ => none
  | n + 1, x2, h =>
    (if (x2) < (h.1 71 0) then (if (x2) < ((nI 40)) then rdA h 138 40 (x2) fun v_5 => wrA h 72 40 (x2) (v_5) fun h_6 => rdA h_6 139 40 (x2) fun v_7 => wrA h_6 73 40 (x2) (v_7) fun h_8 => rdA h_8 140 40 (x2) fun v_9 => wrA h_8 74 40 (x2) (v_9) fun h_10 => rdA h_10 141 40 (x2) fun v_11 => wrA h_10 75 40 (x2) (v_11) fun h_12 => rdA h_12 142 40 (x2) fun v_13 => wrA h_12 76 40 (x2) (v_13) fun h_14 => rdA h_14 143 40 (x2) fun v_15 => wrA h_14 77 40 (x2) (v_15) fun h_16 => f_X2_copyFrom_71_137_L18 n (x2 + (nI 1)) h_16 else some ((), h)) else some ((), h))
def f_X2_copyFrom_71_137  (h : CH) : Option (Unit × CH) :=
  wrF h 71 0 (h.1 137 0) fun h_1 => wrF h_1 71 1 (h_1.1 137 1) fun h_2 => f_X2_copyFrom_71_137_L18 FU ((nI 0)) h_2
def f_X2_copyFrom_71_144_L18  : Nat → Int32 → CH → Option (Unit × CH)
  | 0, _, _ => none
  | n + 1, x2, h =>
    (if (x2) < (h.1 71 0) then (if (x2) < ((nI 40)) then rdA h 145 40 (x2) fun v_5 => wrA h 72 40 (x2) (v_5) fun h_6 => rdA h_6 146 40 (x2) fun v_7 => wrA h_6 73 40 (x2) (v_7) fun h_8 => rdA h_8 147 40 (x2) fun v_9 => wrA h_8 74 40 (x2) (v_9) fun h_10 => rdA h_10 148 40 (x2) fun v_11 => wrA h_10 75 40 (x2) (v_11) fun h_12 => rdA h_12 149 40 (x2) fun v_13 => wrA h_12 76 40 (x2) (v_13) fun h_14 => rdA h_14 150 40 (x2) fun v_15 => wrA h_14 77 40 (x2) (v_15) fun h_16 => f_X2_copyFrom_71_144_L18 n (x2 + (nI 1)) h_16 else some ((), h)) else some ((), h))
def f_X2_copyFrom_71_144  (h : CH) : Option (Unit × CH) :=
  wrF h 71 0 (h.1 144 0) fun h_1 => wrF h_1 71 1 (h_1.1 144 1) fun h_2 => f_X2_copyFrom_71_144_L18 FU ((nI 0)) h_2
def f_X11_back (x1 : Int32) (h : CH) : Option (Int32 × CH) :=
  clp (f_X11_boxAt x1 h) fun v_1 => (if v_1 = none then some (((-1)), h) else if v_1 = some 130 then (if (h.1 130 2) = 0 then some (((-1)), h) else cl (f_X2_copyFrom_71_130 h) fun _ h_4 => some ((h_4.1 71 0), h_4)) else if v_1 = some 137 then (if (h.1 137 2) = 0 then some (((-1)), h) else cl (f_X2_copyFrom_71_137 h) fun _ h_7 => some ((h_7.1 71 0), h_7)) else if v_1 = some 144 then (if (h.1 144 2) = 0 then some (((-1)), h) else cl (f_X2_copyFrom_71_144 h) fun _ h_10 => some ((h_10.1 71 0), h_10)) else none)
def f_X11_about (x1 : Int32) (h : CH) : Option Int32 :=
  (if (x1) = (nI 0) then some (h.1 7 2) else (if (x1) = (nI 1) then some (h.1 7 0) else (if (x1) = (nI 2) then some (h.1 55 0) else (if (x1) = (nI 3) then some (h.1 71 0) else (if (x1) = (nI 4) then some (h.1 71 1) else (if (x1) = (nI 5) then some (h.1 0 1) else (if (x1) = (nI 6) then some (h.1 55 1) else (if (x1) = (nI 7) then some (h.1 7 3) else (if (x1) = (nI 8) then some (h.1 7 1) else some ((-1)))))))))))
def f_X12_takeTape_L25  : Nat → Int32 → CH → Option (Unit × CH)
  | 0, _, _ => none
  | n + 1, x2, h =>
    (if (x2) < (h.1 151 3) then rdA h 152 1620 (x2) fun v_6 => wrB h 153 1600 (x2) (v_6) fun h_7 => f_X12_takeTape_L25 n (x2 + (nI 1)) h_7 else wrF h 151 2 ((nI 0)) fun h_8 => wrF h_8 151 7 ((nI 0)) fun h_9 => some ((), h_9))
def f_X12_takeTape (x1 : Int32) (h : CH) : Option (Unit × CH) :=
  wrF h 151 4 ((nI 0)) fun h_1 => wrF h_1 151 5 ((-1)) fun h_2 => wrG h_2 151 11 (x1) fun h_3 => wrF h_3 151 3 (h_3.1 151 2) fun h_4 => f_X12_takeTape_L25 FU ((nI 0)) h_4
def f_X12_clearBank_L115  : Nat → Int32 → CH → Option (Unit × CH)
  | 0, _, _ => none
  | n + 1, x1, h =>
    (if (x1) < ((((nI 16)) * (h.1 151 27)) + ((nI 16))) then wrA h 161 32 (x1) ((nI 0)) fun h_12 => f_X12_clearBank_L115 n (x1 + (nI 1)) h_12 else some ((), h))
def f_X12_clearBank_L68  : Nat → Int32 → CH → Option (Unit × CH)
  | 0, _, _ => none
  | n + 1, x1, h =>
    (if (x1) < ((((nI 4)) * (h.1 151 27)) + ((nI 4))) then wrA h 162 8 (x1) ((nI 0)) fun h_8 => wrA h_8 163 8 (x1) ((nI 0)) fun h_9 => wrZ h_9 166 8 (x1) ((nI 0)) fun h_10 => f_X12_clearBank_L68 n (x1 + (nI 1)) h_10 else f_X12_clearBank_L115 FU (((nI 16)) * (h.1 151 27)) h)
def f_X12_clearBank  (h : CH) : Option (Unit × CH) :=
  wrA h 154 2 (h.1 151 27) ((nI 5)) fun h_1 => wrA h_1 155 2 (h_1.1 151 27) ((nI 0)) fun h_2 => wrA h_2 156 2 (h_2.1 151 27) ((nI 0)) fun h_3 => wrA h_3 157 2 (h_3.1 151 27) ((nI 20)) fun h_4 => wrZ h_4 164 2 (h_4.1 151 27) ((nI 0)) fun h_5 => wrZ h_5 165 2 (h_5.1 151 27) ((nI 0)) fun h_6 => f_X12_clearBank_L68 FU (((nI 4)) * (h_6.1 151 27)) h_6
def f_X12_sign (x1 : Int32) (h : CH) : Option Int32 :=
  (if (x1) < (h.1 151 3) then rdA h 153 1600 (x1) fun v_2 => some ((v_2) &&& ((nI 255))) else some ((nI 0)))
def f_X12_isLetter (x0 : Int32) (h : CH) : Option Int32 :=
  (if (x0) < ((nI 97)) then some (nI 0) else (if ((nI 122)) < (x0) then some (nI 0) else some (nI 1)))
def f_X12_isDigit (x0 : Int32) (h : CH) : Option Int32 :=
  (if (x0) < ((nI 48)) then some (nI 0) else (if ((nI 57)) < (x0) then some (nI 0) else some (nI 1)))
def f_X12_isSign (x1 : Int32) (h : CH) : Option Int32 :=
  jn (some (nI 1)) fun (j_1 : Option Int32) => (if (x1) = ((nI 59)) then j_1 else (if (h.1 151 11) = 0 then some (nI 0) else (if (x1) = ((nI 40)) then j_1 else (if (x1) = ((nI 41)) then j_1 else (if (x1) = ((nI 60)) then j_1 else (if (x1) = ((nI 62)) then j_1 else (if (x1) = ((nI 61)) then j_1 else (if (x1) = ((nI 43)) then j_1 else (if (x1) = ((nI 45)) then j_1 else (if (x1) = ((nI 42)) then j_1 else some (nI 0)))))))))))
def f_X12_isKept (x0 : Int64) (h : CH) : Option Int32 :=
  jn (fun (s_1 : Int32) => jn (some (nI 1)) fun (j_3 : Option Int32) => (if (s_1) = 0 then (if (lg_cmp (x0) (2003330414)) = 0 then j_3 else (if (lg_cmp (x0) (6709618)) = 0 then j_3 else (if (lg_cmp (x0) (521391927923)) = 0 then j_3 else (if (lg_cmp (x0) (465624852596)) = 0 then j_3 else (if (lg_cmp (x0) (7566701)) = 0 then j_3 else (if (lg_cmp (x0) (1701078885)) = 0 then j_3 else (if (lg_cmp (x0) (1836020596)) = 0 then j_3 else (if (lg_cmp (x0) (465557353332)) = 0 then j_3 else (if (lg_cmp (x0) (24948)) = 0 then j_3 else (if (lg_cmp (x0) (6385252)) = 0 then j_3 else (if (lg_cmp (x0) (28530)) = 0 then j_3 else (if (lg_cmp (x0) (7237492)) = 0 then j_3 else some (nI 0))))))))))))) else j_3)) fun (j_2 : Int32 → Option Int32) => jn (j_2 ((nI 1))) fun (j_17 : Option Int32) => (if (lg_cmp (x0) (123623812527219)) = 0 then j_17 else (if (lg_cmp (x0) (1717658469)) = 0 then j_17 else (if (lg_cmp (x0) (1802071652)) = 0 then j_17 else (if (lg_cmp (x0) (431416239732)) = 0 then j_17 else (if (lg_cmp (x0) (7499639)) = 0 then j_17 else (if (lg_cmp (x0) (461414299507)) = 0 then j_17 else (if (lg_cmp (x0) (31650994541847922)) = 0 then j_17 else (if (lg_cmp (x0) (422726431347)) = 0 then j_17 else (if (lg_cmp (x0) (427071599731)) = 0 then j_17 else (if (lg_cmp (x0) (1852137842)) = 0 then j_17 else (if (lg_cmp (x0) (6447474)) = 0 then j_17 else (if (lg_cmp (x0) (1936287598)) = 0 then j_17 else j_2 ((nI 0))))))))))))))
def f_X12_goOn_L259 (k322 : CH → Option (Unit × CH)) : Nat → CH → Option (Unit × CH)
  | 0, _ => none
  | n + 1, h =>
    clp (f_X12_sign (h.1 151 7) h) fun v_18 => clp (f_X12_isDigit v_18 h) fun v_19 => (if (v_19) = 0 then k322 h else jn (fun (h_21 : CH) => wrF h_21 151 7 ((h_21.1 151 7) + ((nI 1))) fun h_23 => f_X12_goOn_L259 k322 n h_23) fun (j_22 : CH → Option (Unit × CH)) => (if ((h.1 151 7) - (h.1 151 6)) < ((nI 4)) then clp (f_X12_sign (h.1 151 7) h) fun v_25 => wrF h 151 9 (((((nI 10)) * (h.1 151 9)) + (v_25)) - ((nI 48))) fun h_26 => j_22 h_26 else j_22 h))
def f_X12_goOn_L119 (k146 : CH → Option (Unit × CH)) : Nat → CH → Option (Unit × CH)
  | 0, _ => none
  | n + 1, h =>
    clp (f_X12_sign (h.1 151 7) h) fun v_36 => clp (f_X12_isLetter v_36 h) fun v_37 => (if (v_37) = 0 then k146 h else wrF h 151 7 ((h.1 151 7) + ((nI 1))) fun h_39 => f_X12_goOn_L119 k146 n h_39)
def f_X12_goOn_L156 (k199 : CH → Option (Unit × CH)) : Nat → Int32 → CH → Option (Unit × CH)
  | 0, _, _ => none
  | n + 1, x2, h =>
    (if (x2) < (h.1 151 7) then (if (x2) < ((h.1 151 6) + ((nI 8))) then clp (f_X12_sign x2 h) fun v_44 => wrJ h 151 10 (((h.2 151 10) <<< (((nI 8)).toInt64 &&& 63)) ||| ((v_44).toInt64)) fun h_45 => f_X12_goOn_L156 k199 n (x2 + (nI 1)) h_45 else k199 h) else k199 h)
def f_X12_goOn_L8  : Nat → CH → Option (Unit × CH)
  | 0, _ => none
  | n + 1, h =>
    jn (clp (f_X12_sign (h.1 151 6) h) fun v_3 => wrF h 151 7 ((h.1 151 6) + ((nI 1))) fun h_4 => (if (h_4.1 151 6) < (h_4.1 151 3) then clp (f_X12_isLetter v_3 h_4) fun v_6 => (if (v_6) = 0 then clp (f_X12_isDigit v_3 h_4) fun v_8 => (if (v_8) = 0 then clp (f_X12_isSign v_3 h_4) fun v_10 => jn (fun (s_11 : Int32) => wrF h_4 151 8 (s_11) fun h_13 => some ((), h_13)) fun (j_12 : Int32 → Option (Unit × CH)) => (if (v_10) = 0 then j_12 ((nI 1)) else j_12 ((nI 5))) else wrF h_4 151 9 ((nI 0)) fun h_15 => wrF h_15 151 7 (h_15.1 151 6) fun h_16 => f_X12_goOn_L259 (fun (h_17 : CH) => jn (fun (s_27 : Int32) => wrF h_17 151 8 (s_27) fun h_29 => some ((), h_29)) fun (j_28 : Int32 → Option (Unit × CH)) => jn (j_28 ((nI 1))) fun (j_30 : Option (Unit × CH)) => (if ((nI 4)) < ((h_17.1 151 7) - (h_17.1 151 6)) then j_30 else clp (f_X12_sign (h_17.1 151 7) h_17) fun v_32 => clp (f_X12_isLetter v_32 h_17) fun v_33 => (if (v_33) = 0 then j_28 ((nI 4)) else j_30))) FU h_16) else f_X12_goOn_L119 (fun (h_35 : CH) => wrJ h_35 151 10 (0) fun h_40 => f_X12_goOn_L156 (fun (h_41 : CH) => jn (fun (s_46 : Int32) => wrF h_41 151 8 (s_46) fun h_48 => some ((), h_48)) fun (j_47 : Int32 → Option (Unit × CH)) => (if ((nI 8)) < ((h_41.1 151 7) - (h_41.1 151 6)) then j_47 ((nI 1)) else clp (f_X12_isKept (h_41.2 151 10) h_41) fun v_50 => (if (v_50) = 0 then j_47 ((nI 2)) else j_47 ((nI 3))))) FU (h_40.1 151 6) h_40) FU h_4) else wrF h_4 151 8 ((nI 0)) fun h_52 => wrF h_52 151 6 (h_52.1 151 3) fun h_53 => wrF h_53 151 7 (h_53.1 151 3) fun h_54 => some ((), h_54))) fun (j_2 : Option (Unit × CH)) => (if (h.1 151 6) < (h.1 151 3) then clp (f_X12_sign (h.1 151 6) h) fun v_56 => jn (wrF h 151 6 ((h.1 151 6) + ((nI 1))) fun h_58 => f_X12_goOn_L8 n h_58) fun (j_57 : Option (Unit × CH)) => (if (v_56) = ((nI 32)) then j_57 else clp (f_X12_sign (h.1 151 6) h) fun v_60 => (if (v_60) = ((nI 10)) then j_57 else j_2)) else j_2)
def f_X12_goOn  (h : CH) : Option (Unit × CH) :=
  wrF h 151 6 (h.1 151 7) fun h_1 => f_X12_goOn_L8 FU h_1
def f_X12_isGood  (h : CH) : Option Int32 :=
  (if (h.1 151 4) = 0 then some (nI 1) else some (nI 0))
def f_X12_is (x1 : Int32) (h : CH) : Option Int32 :=
  (if (h.1 151 8) = ((nI 5)) then clp (f_X12_sign (h.1 151 6) h) fun v_2 => (if (v_2) = (x1) then some (nI 1) else some (nI 0)) else some (nI 0))
