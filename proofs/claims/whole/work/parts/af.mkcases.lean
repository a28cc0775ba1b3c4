/-! the law's two calls that make an object -/
theorem l_callN {p : Program} {l : Launch} {e : Env} {R : Room} {s : State} {m : MethodId} {args : Array Value} {below : List Frame} {meth : Method} {c : Code} {D : va_G} {cid : Nat → ClassId} {ad : Nat → Nat} {A : Nat → Prop} {cells slots : Nat} {Q : Unit → State → Prop} {cc : ByteArray} {own : String} {nL fr lo : Nat} (C : Cx ((p, l, e, R, s, m, args, below, meth, c, D, cid, ad, List.range 193, A, cells, slots, Q) : Kx Unit) cc own nL fr lo []) {pc : Nat} (n : Nat) {ls : List (Nat × Value)} {h h1 : CH} {idx : Nat} {y : MethodName} {b : ByteArray} {mL np d ce sl : Nat} {As : (Nat → Nat) → List Value} {av stk st : List Value} {o1 : Option (Int32 × CH)} {v : Int32} (he : o1 = some (v, h1))
    (hok : ∀ q, o1 = some q → MN y b mL (some .int) d ce sl As h (some (.int q.1)) q.2) (hd : decode cc pc = .ok (.invokevirtual idx, 3)) (hL : LV own idx y b mL (some .int) np) (hcl : (vwCl[11]?).map (fun q => q.1) = some y.cls) (hfr : d + 1 ≤ fr) (hlo : 8 + (mL + 11) + 40 * d ≤ lo) (hce : cells + ce ≤ R.cells) (hsl : slots + sl ≤ R.slots) (hAs : As ad = .ref (ad 0) :: av) (hnp : av.length = np) (hst : (st.map fun v => v.category).sum ≤ 8) (hs : stk = av.reverse ++ .ref (ad 0) :: st) (hn : pc + 3 = n) (k : Imp ((p, l, e, R, s, m, args, below, meth, c, D, cid, ad, List.range 193, A, (cells + ce), (slots + sl), Q) : Kx Unit) n ls (.int v :: st) h1 (some ())) : Imp ((p, l, e, R, s, m, args, below, meth, c, D, cid, ad, List.range 193, A, cells, slots, Q) : Kx Unit) pc ls stk h (some ()) := by
  obtain ⟨⟨hx, hb, hml, hown, hts⟩, hK, hnd, hlv, hT, hA, hfr1, hlo1, hce0, hsl0⟩ := C
  subst hn
  intro v' hv H locs ls0 hP hD hS hl
  have hM := hok _ he l D cid ad H.size
  have he2 : (wl cid ad (List.range 193) h)[0]? = some (ad 0, .inr (11, fvs ad h 0 11)) := by rw [wlr_get (by decide)]; rfl
  obtain ⟨qc, hqc, hqn⟩ : ∃ qc, vwCl[11]? = some qc ∧ qc.1 = y.cls := by
    cases hz : vwCl[11]? with
    | none => rw [hz] at hcl; cases hcl
    | some qc => rw [hz] at hcl; exact ⟨qc, rfl, Option.some.inj hcl⟩
  have hrec := va_recv hK hP hqc he2
  rw [hqn] at hrec
  have hcw : CallW R s args own y.cls idx y b mL (some .int) (Cond.code y b mL (some .int) :: TS) { frames := d, cells := ce, slots := sl, locals := 40 * d } ce sl np :=
    cwV np hts (ts_goodV hL) rfl rfl rfl ⟨rfl, hL.2.1.1, hL.2.1.2, hL.2.2⟩ ⟨Nat.le_trans hfr hfr1, Nat.le_trans hlo hlo1⟩
  have hpre : PreV s H y.cls (ad 0) (va_Pc (As ad) (fun U => U.heap.size = H.size ∧ Bw D cid ad (List.range 193) h (fun _ => True) U)) av :=
    ⟨bw_blind, hrec, fun U hU hW => ⟨by rw [hAs], by rw [hU], by rw [hU]; exact hP, va_K.moved hW.alike hK, hD.weaken (fun _ _ _ _ => trivial)⟩⟩
  refine va_callg (va_runV (g := F0 m pc ls0 stk) ⟨hx, hb, hml, hown, hts⟩ hM hcw hpre rfl hnp (hl.1.trans hml) hs (lv_room hst) hd ⟨hce, hsl⟩) hS (fun q _ h => wl_free hD hS hA q h) (wl_free hD hS hA) (fun t H1 locs1 ht hvm hB hS1 => ?_)
  obtain ⟨hP1, hK1, hD1⟩ := hB
  rw [ht] at hP1
  exact k v' hv H1 locs1 ls0 hP1 (hD1.weaken (fun k q _ g => wl_free hD hS hA q.1 g)) hS1 hl
set_option maxHeartbeats 4000000 in
theorem case_2 {p : Program} {l : Launch} {e : Env} {R : Room} {s : State} {m : MethodId} {args : Array Value} {below : List Frame} {meth : Method} {c : Code} {D : va_G} {cid : Nat → ClassId} {ad : Nat → Nat} {A : Nat → Prop} {cells slots : Nat} {Q : Unit → State → Prop} {b : Nat} {x3 : Int32} (C0 : Cx ((p, l, e, R, s, m, args, below, meth, c, D, cid, ad, List.range 193, A, cells, slots, Q) : Kx Unit) cL_law RL 4 400 20000 []) (C1 : Cx ((p, l, e, R, s, m, args, below, meth, c, D, cid, ad, List.range 193, A, (cells + 1), (slots + 5), Q) : Kx Unit) cL_law RL 4 400 20000 []) {h : CH} (hI : Iv h) (k : ∀ h2, Iv h2 → Imp ((p, l, e, R, s, m, args, below, meth, c, D, cid, ad, List.range 193, A, (cells + 1), (slots + 5), Q) : Kx Unit) 1479 [(0, .ref b), (1, .ref (ad 0)), (2, .ref (ad 151)), (3, .int x3)] [] h2 (some ())) : Imp ((p, l, e, R, s, m, args, below, meth, c, D, cid, ad, List.range 193, A, cells, slots, Q) : Kx Unit) 266 [(0, .ref b), (1, .ref (ad 0)), (2, .ref (ad 151)), (3, .int x3)] [] h (some ()) := by
  obtain ⟨v, h1, h2, e1, e2, e3⟩ := op_town hI
  obtain ⟨-, -, -, -, -, -, -, -, hce, hsl⟩ := id C1
  refine r_aload_n C0 267 1 rfl dL_law_266 rfl ?_
  refine l_callN C0 270 e1 (ok_f_X11_town _) dL_law_267 lvL_23 rfl (Nat.le_of_ble_eq_true rfl) (Nat.le_of_ble_eq_true rfl) hce hsl rfl rfl (st := []) (Nat.le_of_ble_eq_true rfl) rfl rfl ?_
  refine r_aload_n C1 271 2 rfl dL_law_270 rfl ?_
  refine l_callI C1 274 [.int v] e2 (ok_f_X12_town  _) dL_law_271 lvL_27 kt_151 rfl rfl (Nat.le_of_ble_eq_true rfl) (Nat.le_of_ble_eq_true rfl) rfl rfl (Nat.le_of_ble_eq_true rfl) rfl rfl ?_
  refine l_eq C1 1479 dL_law_274 (by decide) ?_
  exact k h2 e3
set_option maxHeartbeats 4000000 in
theorem case_3 {p : Program} {l : Launch} {e : Env} {R : Room} {s : State} {m : MethodId} {args : Array Value} {below : List Frame} {meth : Method} {c : Code} {D : va_G} {cid : Nat → ClassId} {ad : Nat → Nat} {A : Nat → Prop} {cells slots : Nat} {Q : Unit → State → Prop} {b : Nat} {x3 : Int32} (C0 : Cx ((p, l, e, R, s, m, args, below, meth, c, D, cid, ad, List.range 193, A, cells, slots, Q) : Kx Unit) cL_law RL 4 400 20000 []) (C1 : Cx ((p, l, e, R, s, m, args, below, meth, c, D, cid, ad, List.range 193, A, (cells + 1), (slots + 4), Q) : Kx Unit) cL_law RL 4 400 20000 []) {h : CH} (hI : Iv h) (k : ∀ h2, Iv h2 → Imp ((p, l, e, R, s, m, args, below, meth, c, D, cid, ad, List.range 193, A, (cells + 1), (slots + 4), Q) : Kx Unit) 1479 [(0, .ref b), (1, .ref (ad 0)), (2, .ref (ad 151)), (3, .int x3)] [] h2 (some ())) : Imp ((p, l, e, R, s, m, args, below, meth, c, D, cid, ad, List.range 193, A, cells, slots, Q) : Kx Unit) 279 [(0, .ref b), (1, .ref (ad 0)), (2, .ref (ad 151)), (3, .int x3)] [] h (some ()) := by
  obtain ⟨v, h1, h2, e1, e2, e3⟩ := op_rules hI
  obtain ⟨-, -, -, -, -, -, -, -, hce, hsl⟩ := id C1
  refine r_aload_n C0 280 1 rfl dL_law_279 rfl ?_
  refine l_callN C0 283 e1 (ok_f_X11_rules _) dL_law_280 lvL_28 rfl (Nat.le_of_ble_eq_true rfl) (Nat.le_of_ble_eq_true rfl) hce hsl rfl rfl (st := []) (Nat.le_of_ble_eq_true rfl) rfl rfl ?_
  refine r_aload_n C1 284 2 rfl dL_law_283 rfl ?_
  refine l_callI C1 287 [.int v] e2 (ok_f_X12_rules  _) dL_law_284 lvL_31 kt_151 rfl rfl (Nat.le_of_ble_eq_true rfl) (Nat.le_of_ble_eq_true rfl) rfl rfl (Nat.le_of_ble_eq_true rfl) rfl rfl ?_
  refine l_eq C1 1479 dL_law_287 (by decide) ?_
  exact k h2 e3
