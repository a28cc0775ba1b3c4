/-! the law's switch and loop -/
set_option maxHeartbeats 4000000 in
theorem law_sw {p : Program} {l : Launch} {e : Env} {R : Room} {s : State} {m : MethodId} {args : Array Value} {below : List Frame} {meth : Method} {c : Code} {D : va_G} {cid : Nat → ClassId} {ad : Nat → Nat} {A : Nat → Prop} {Q : Unit → State → Prop} {ce sl : Nat} {b L : Nat} {xs : Nat → Int32} (C : Cx ((p, l, e, R, s, m, args, below, meth, c, D, cid, ad, List.range 193, A, ce, sl, Q) : Kx Unit) cL_law RL 4 400 20000 []) (C5 : Cx ((p, l, e, R, s, m, args, below, meth, c, D, cid, ad, List.range 193, A, (ce + 1), (sl + 5), Q) : Kx Unit) cL_law RL 4 400 20000 []) (C4 : Cx ((p, l, e, R, s, m, args, below, meth, c, D, cid, ad, List.range 193, A, (ce + 1), (sl + 4), Q) : Kx Unit) cL_law RL 4 400 20000 []) (X : Sx ((p, l, e, R, s, m, args, below, meth, c, D, cid, ad, List.range 193, A, ce, sl, Q) : Kx Unit) b L xs) {x3 w : Int32} (v1 : vp_in (x3 + 1) L) (v2 : vp_in (x3 + 2) L) (v3 : vp_in (x3 + 3) L) (v4 : vp_in (x3 + 4) L) (v5 : vp_in (x3 + 5) L) {h : CH} (hI : Iv h) (k : ∀ h2, Iv h2 → Imp ((p, l, e, R, s, m, args, below, meth, c, D, cid, ad, List.range 193, A, (ce + 1), (sl + 5), Q) : Kx Unit) 1479 [(0, .ref b), (1, .ref (ad 0)), (2, .ref (ad 151)), (3, .int x3)] [] h2 (some ())) : Imp ((p, l, e, R, s, m, args, below, meth, c, D, cid, ad, List.range 193, A, ce, sl, Q) : Kx Unit) 33 [(0, .ref b), (1, .ref (ad 0)), (2, .ref (ad 151)), (3, .int x3)] [.int w] h (some ()) := by
  have k0 : ∀ h2, Iv h2 → Imp ((p, l, e, R, s, m, args, below, meth, c, D, cid, ad, List.range 193, A, ce, sl, Q) : Kx Unit) 1479 [(0, .ref b), (1, .ref (ad 0)), (2, .ref (ad 151)), (3, .int x3)] [] h2 (some ()) := fun h2 q => imp_widen (Nat.le_add_right _ _) (Nat.le_add_right _ _) (k h2 q)
  have k4 : ∀ h2, Iv h2 → Imp ((p, l, e, R, s, m, args, below, meth, c, D, cid, ad, List.range 193, A, (ce + 1), (sl + 4), Q) : Kx Unit) 1479 [(0, .ref b), (1, .ref (ad 0)), (2, .ref (ad 151)), (3, .int x3)] [] h2 (some ()) := fun h2 q => imp_widen (Nat.le_refl _) (Nat.le_succ _) (k h2 q)
  by_cases g0 : w = nI 0
  · exact r_tsIn C 180 (nI 0) g0 dL_law_33 (by decide) (by decide) rfl (by decide) (case_0 C X v1 v2 v3 v4 v5 hI k0)
  by_cases g1 : w = nI 1
  · exact r_tsIn C 243 (nI 1) g1 dL_law_33 (by decide) (by decide) rfl (by decide) (case_1 C X v1 v2 v3 v4 v5 hI k0)
  by_cases g2 : w = nI 2
  · exact r_tsIn C 266 (nI 2) g2 dL_law_33 (by decide) (by decide) rfl (by decide) (case_2 C C5 hI k)
  by_cases g3 : w = nI 3
  · exact r_tsIn C 279 (nI 3) g3 dL_law_33 (by decide) (by decide) rfl (by decide) (case_3 C C4 hI k4)
  by_cases g4 : w = nI 4
  · exact r_tsIn C 292 (nI 4) g4 dL_law_33 (by decide) (by decide) rfl (by decide) (case_4 C X v1 v2 v3 v4 v5 hI k0)
  by_cases g5 : w = nI 5
  · exact r_tsIn C 315 (nI 5) g5 dL_law_33 (by decide) (by decide) rfl (by decide) (case_5 C X v1 v2 v3 v4 v5 hI k0)
  by_cases g6 : w = nI 6
  · exact r_tsIn C 358 (nI 6) g6 dL_law_33 (by decide) (by decide) rfl (by decide) (case_6 C X v1 v2 v3 v4 v5 hI k0)
  by_cases g7 : w = nI 7
  · exact r_tsIn C 411 (nI 7) g7 dL_law_33 (by decide) (by decide) rfl (by decide) (case_7 C X v1 v2 v3 v4 v5 hI k0)
  by_cases g8 : w = nI 8
  · exact r_tsIn C 464 (nI 8) g8 dL_law_33 (by decide) (by decide) rfl (by decide) (case_8 C X v1 v2 v3 v4 v5 hI k0)
  by_cases g9 : w = nI 9
  · exact r_tsIn C 527 (nI 9) g9 dL_law_33 (by decide) (by decide) rfl (by decide) (case_9 C X v1 v2 v3 v4 v5 hI k0)
  by_cases g10 : w = nI 10
  · exact r_tsIn C 590 (nI 10) g10 dL_law_33 (by decide) (by decide) rfl (by decide) (case_10 C X v1 v2 v3 v4 v5 hI k0)
  by_cases g11 : w = nI 11
  · exact r_tsIn C 643 (nI 11) g11 dL_law_33 (by decide) (by decide) rfl (by decide) (case_11 C X v1 v2 v3 v4 v5 hI k0)
  by_cases g12 : w = nI 12
  · exact r_tsIn C 676 (nI 12) g12 dL_law_33 (by decide) (by decide) rfl (by decide) (case_12 C X v1 v2 v3 v4 v5 hI k0)
  by_cases g13 : w = nI 13
  · exact r_tsIn C 719 (nI 13) g13 dL_law_33 (by decide) (by decide) rfl (by decide) (case_13 C X v1 v2 v3 v4 v5 hI k0)
  by_cases g14 : w = nI 14
  · exact r_tsIn C 772 (nI 14) g14 dL_law_33 (by decide) (by decide) rfl (by decide) (case_14 C X v1 v2 v3 v4 v5 hI k0)
  by_cases g15 : w = nI 15
  · exact r_tsIn C 805 (nI 15) g15 dL_law_33 (by decide) (by decide) rfl (by decide) (case_15 C X v1 v2 v3 v4 v5 hI k0)
  by_cases g16 : w = nI 16
  · exact r_tsIn C 838 (nI 16) g16 dL_law_33 (by decide) (by decide) rfl (by decide) (case_16 C X v1 v2 v3 v4 v5 hI k0)
  by_cases g17 : w = nI 17
  · exact r_tsIn C 891 (nI 17) g17 dL_law_33 (by decide) (by decide) rfl (by decide) (case_17 C X v1 v2 v3 v4 v5 hI k0)
  by_cases g18 : w = nI 18
  · exact r_tsIn C 924 (nI 18) g18 dL_law_33 (by decide) (by decide) rfl (by decide) (case_18 C X v1 v2 v3 v4 v5 hI k0)
  by_cases g19 : w = nI 19
  · exact r_tsIn C 977 (nI 19) g19 dL_law_33 (by decide) (by decide) rfl (by decide) (case_19 C X v1 v2 v3 v4 v5 hI k0)
  by_cases g20 : w = nI 20
  · exact r_tsIn C 1000 (nI 20) g20 dL_law_33 (by decide) (by decide) rfl (by decide) (case_20 C X v1 v2 v3 v4 v5 hI k0)
  by_cases g21 : w = nI 21
  · exact r_tsIn C 1023 (nI 21) g21 dL_law_33 (by decide) (by decide) rfl (by decide) (case_21 C X v1 v2 v3 v4 v5 hI k0)
  by_cases g22 : w = nI 22
  · exact r_tsIn C 1066 (nI 22) g22 dL_law_33 (by decide) (by decide) rfl (by decide) (case_22 C X v1 v2 v3 v4 v5 hI k0)
  by_cases g23 : w = nI 23
  · exact r_tsIn C 1099 (nI 23) g23 dL_law_33 (by decide) (by decide) rfl (by decide) (case_23 C X v1 v2 v3 v4 v5 hI k0)
  by_cases g24 : w = nI 24
  · exact r_tsIn C 1132 (nI 24) g24 dL_law_33 (by decide) (by decide) rfl (by decide) (case_24 C X v1 v2 v3 v4 v5 hI k0)
  by_cases g25 : w = nI 25
  · exact r_tsIn C 1165 (nI 25) g25 dL_law_33 (by decide) (by decide) rfl (by decide) (case_25 C X v1 v2 v3 v4 v5 hI k0)
  by_cases g26 : w = nI 26
  · exact r_tsIn C 1208 (nI 26) g26 dL_law_33 (by decide) (by decide) rfl (by decide) (case_26 C X v1 v2 v3 v4 v5 hI k0)
  by_cases g27 : w = nI 27
  · exact r_tsIn C 1271 (nI 27) g27 dL_law_33 (by decide) (by decide) rfl (by decide) (case_27 C X v1 v2 v3 v4 v5 hI k0)
  by_cases g28 : w = nI 28
  · exact r_tsIn C 1324 (nI 28) g28 dL_law_33 (by decide) (by decide) rfl (by decide) (case_28 C X v1 v2 v3 v4 v5 hI k0)
  by_cases g29 : w = nI 29
  · exact r_tsIn C 1377 (nI 29) g29 dL_law_33 (by decide) (by decide) rfl (by decide) (case_29 C X v1 v2 v3 v4 v5 hI k0)
  by_cases g30 : w = nI 30
  · exact r_tsIn C 1410 (nI 30) g30 dL_law_33 (by decide) (by decide) rfl (by decide) (case_30 C X v1 v2 v3 v4 v5 hI k0)
  by_cases g31 : w = nI 31
  · exact r_tsIn C 1433 (nI 31) g31 dL_law_33 (by decide) (by decide) rfl (by decide) (case_31 C X v1 v2 v3 v4 v5 hI k0)
  by_cases g32 : w = nI 32
  · exact r_tsIn C 1456 (nI 32) g32 dL_law_33 (by decide) (by decide) rfl (by decide) (case_32 C X v1 v2 v3 v4 v5 hI k0)
  refine r_tsOut C 1479 dL_law_33 (ts_out (fun v h1 h2 => ?_)) (by decide) (k0 h hI)
  have hv : v = 0 ∨ v = 1 ∨ v = 2 ∨ v = 3 ∨ v = 4 ∨ v = 5 ∨ v = 6 ∨ v = 7 ∨ v = 8 ∨ v = 9 ∨ v = 10 ∨ v = 11 ∨ v = 12 ∨ v = 13 ∨ v = 14 ∨ v = 15 ∨ v = 16 ∨ v = 17 ∨ v = 18 ∨ v = 19 ∨ v = 20 ∨ v = 21 ∨ v = 22 ∨ v = 23 ∨ v = 24 ∨ v = 25 ∨ v = 26 ∨ v = 27 ∨ v = 28 ∨ v = 29 ∨ v = 30 ∨ v = 31 ∨ v = 32 := by omega
  rcases hv with rfl | rfl | rfl | rfl | rfl | rfl | rfl | rfl | rfl | rfl | rfl | rfl | rfl | rfl | rfl | rfl | rfl | rfl | rfl | rfl | rfl | rfl | rfl | rfl | rfl | rfl | rfl | rfl | rfl | rfl | rfl | rfl | rfl
  · exact g0
  · exact g1
  · exact g2
  · exact g3
  · exact g4
  · exact g5
  · exact g6
  · exact g7
  · exact g8
  · exact g9
  · exact g10
  · exact g11
  · exact g12
  · exact g13
  · exact g14
  · exact g15
  · exact g16
  · exact g17
  · exact g18
  · exact g19
  · exact g20
  · exact g21
  · exact g22
  · exact g23
  · exact g24
  · exact g25
  · exact g26
  · exact g27
  · exact g28
  · exact g29
  · exact g30
  · exact g31
  · exact g32
theorem law_cmp {L n : Nat} (hL : L ≤ 3072) (hn : n ≤ 3078) : (nI L - nI 6 < nI n) ↔ L < n + 6 := by
  have e : (nI L - nI 6).toInt = (L : Int) - 6 := by
    rw [Int32.toInt_sub, uI_toInt (by omega), uI_toInt (by omega)]
    rw [Int.bmod_eq_of_le] <;> omega
  rw [Int32.lt_iff_toInt_lt, e, uI_toInt (by omega)]
  omega
theorem l_slen {κ : Kx Unit} {b L : Nat} {xs : Nat → Int32} {cc : ByteArray} {own : String} {nL fr lo : Nat} {T : List Nat} (C : Cx κ cc own nL fr lo T) (X : Sx κ b L xs) {pc : Nat} (n : Nat) {ls : List (Nat × Value)} {st : List Value} {h : CH} {o : Option Unit} (hd : decode cc pc = .ok (.arraylength, 1)) (hn : pc + 1 = n) (k : Imp κ n ls (.int (nI L) :: st) h o) : Imp κ pc ls (.ref b :: st) h o := by
  obtain ⟨p, l, e, R, s, m, args, below, meth, c, D, cid, ad, lv, A, cells, slots, Q⟩ := κ
  obtain ⟨⟨hx, hb, hml, hown, hts⟩, -⟩ := C
  obtain ⟨hX, hbl, hbA⟩ := X
  subst hn
  intro v hv H locs ls0 hP hD hS hl
  exact va_slen hx hb hX hbl hbA hS hd (k v hv H locs ls0 hP hD hS hl)
theorem l_gt {κ : Kx Unit} {cc : ByteArray} {own : String} {nL fr lo : Nat} {T : List Nat} (C : Cx κ cc own nL fr lo T) {pc : Nat} (n t : Nat) {ls : List (Nat × Value)} {st : List Value} {h : CH} {o : Option Unit} {x y : Int32} {off : Int} (hd : decode cc pc = .ok (.if_icmp .gt off, 3)) (ht : (pc : Int) + off = (t : Int)) (hn : pc + 3 = n) (k1 : y < x → Imp κ t ls st h o) (k2 : ¬ (y < x) → Imp κ n ls st h o) : Imp κ pc ls (.int y :: .int x :: st) h o := by
  obtain ⟨p, l, e, R, s, m, args, below, meth, c, D, cid, ad, lv, A, cells, slots, Q⟩ := κ
  obtain ⟨⟨hx, hb, hml, hown, hts⟩, -⟩ := C
  subst hn
  intro v hv H locs ls0 hP hD hS hl
  exact lv_icmp_gt hx hb hd ht (fun g => k1 g v hv H locs ls0 hP hD hS hl) (fun g => k2 g v hv H locs ls0 hP hD hS hl)
set_option maxHeartbeats 4000000 in
theorem law_loop {p : Program} {l : Launch} {e : Env} {R : Room} {s : State} {m : MethodId} {args : Array Value} {below : List Frame} {meth : Method} {c : Code} {D : va_G} {cid : Nat → ClassId} {ad : Nat → Nat} {A : Nat → Prop} {Q : Unit → State → Prop} {b L : Nat} {xs : Nat → Int32} {M N : Nat} (hL : L ≤ 3072)
    (CC : ∀ ce sl, ce ≤ M → sl ≤ N → Cx ((p, l, e, R, s, m, args, below, meth, c, D, cid, ad, List.range 193, A, ce, sl, Q) : Kx Unit) cL_law RL 4 400 20000 []) (X : ∀ ce sl, Sx ((p, l, e, R, s, m, args, below, meth, c, D, cid, ad, List.range 193, A, ce, sl, Q) : Kx Unit) b L xs)
    (E : ∀ ce sl ls h, ce ≤ M → sl ≤ N → Imp ((p, l, e, R, s, m, args, below, meth, c, D, cid, ad, List.range 193, A, ce, sl, Q) : Kx Unit) 1485 ls [] h (some ())) : ∀ r n ce sl h, Iv h → L < n + 6 * r + 6 → n ≤ 3078 → ce + r ≤ M → sl + 5 * r ≤ N → Imp ((p, l, e, R, s, m, args, below, meth, c, D, cid, ad, List.range 193, A, ce, sl, Q) : Kx Unit) 18 [(0, .ref b), (1, .ref (ad 0)), (2, .ref (ad 151)), (3, .int (nI n))] [] h (some ()) := by
  intro r
  induction r with
  | zero =>
    intro n ce sl h hI h1 h2 h3 h4
    have C := CC ce sl (by omega) (by omega)
    refine r_iload_n C 19 3 rfl dL_law_18 rfl ?_
    refine r_aload_n C 20 0 rfl dL_law_19 rfl ?_
    refine l_slen C (X ce sl) 21 dL_law_20 rfl ?_
    refine r_bipush C 23 (nI 6) (by decide) dL_law_21 rfl ?_
    refine r_isub C 24 dL_law_23 rfl ?_
    refine l_gt C 27 1485 dL_law_24 (by decide) rfl (fun _ => E ce sl _ h (by omega) (by omega)) (fun q => absurd ((law_cmp hL h2).mpr (by omega)) q)
  | succ r ih =>
    intro n ce sl h hI h1 h2 h3 h4
    have C := CC ce sl (by omega) (by omega)
    refine r_iload_n C 19 3 rfl dL_law_18 rfl ?_
    refine r_aload_n C 20 0 rfl dL_law_19 rfl ?_
    refine l_slen C (X ce sl) 21 dL_law_20 rfl ?_
    refine r_bipush C 23 (nI 6) (by decide) dL_law_21 rfl ?_
    refine r_isub C 24 dL_law_23 rfl ?_
    refine l_gt C 27 1485 dL_law_24 (by decide) rfl (fun _ => E ce sl _ h (by omega) (by omega)) (fun q => ?_)
    have hn : n + 6 ≤ L := by
      rcases Nat.lt_or_ge L (n + 6) with g | g
      · exact absurd ((law_cmp hL h2).mpr g) q
      · exact g
    have hv : ∀ k, k ≤ 5 → vp_in (nI n + nI k) L := fun k hk => by
      rw [nI_add]
      exact vp_in_nI (by omega) (by omega)
    refine r_aload_n C 28 0 rfl dL_law_27 rfl ?_
    refine r_iload_n C 29 3 rfl dL_law_28 rfl ?_
    refine l_sld C (X ce sl) 30 (vp_in_nI (by omega) (by omega)) dL_law_29 rfl ?_
    refine r_bipush C 32 (nI 63) (by decide) dL_law_30 rfl ?_
    refine r_iand C 33 dL_law_32 rfl ?_
    refine law_sw C (CC (ce + 1) (sl + 5) (by omega) (by omega)) (CC (ce + 1) (sl + 4) (by omega) (by omega)) (X ce sl) (hv 1 (by omega)) (hv 2 (by omega)) (hv 3 (by omega)) (hv 4 (by omega)) (hv 5 (by omega)) hI (fun h2 hI2 => ?_)
    have C5 := CC (ce + 1) (sl + 5) (by omega) (by omega)
    refine r_iinc C5 1482 3 (nI 6) [(3, .int (nI (n + 6))), (0, .ref b), (1, .ref (ad 0)), (2, .ref (ad 151))] dL_law_1479 rfl (by decide) (by decide) (by rw [nI_add]; rfl) rfl ?_
    refine r_goto C5 18 dL_law_1482 (by decide) ?_
    refine imp_sub [(0, .ref b), (1, .ref (ad 0)), (2, .ref (ad 151)), (3, .int (nI (n + 6)))] [1, 2, 3, 0] rfl ?_
    exact ih (n + 6) (ce + 1) (sl + 5) h2 hI2 (by omega) (by omega) (by omega) (by omega)
