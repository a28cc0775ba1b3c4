/-! the law's rows -/
def Sx (κ : Kx Unit) (b L : Nat) (xs : Nat → Int32) : Prop := match κ with
  | (p, l, e, R, s, m, args, below, meth, c, D, cid, ad, lv, A, cells, slots, Q) => va_X b L xs s s.heap ∧ b < s.heap.size ∧ ¬ A b
theorem l_sld {κ : Kx Unit} {b L : Nat} {xs : Nat → Int32} {cc : ByteArray} {own : String} {nL fr lo : Nat} {T : List Nat} (C : Cx κ cc own nL fr lo T) (X : Sx κ b L xs) {pc : Nat} (n : Nat) {ls : List (Nat × Value)} {st : List Value} {h : CH} {o : Option Unit} {i : Int32} (hin : vp_in i L) (hd : decode cc pc = .ok (.iaload, 1)) (hn : pc + 1 = n) (k : Imp κ n ls (.int (xs i.toNatClampNeg) :: st) h o) : Imp κ pc ls (.int i :: .ref b :: st) h o := by
  obtain ⟨p, l, e, R, s, m, args, below, meth, c, D, cid, ad, lv, A, cells, slots, Q⟩ := κ
  obtain ⟨⟨hx, hb, hml, hown, hts⟩, -⟩ := C
  obtain ⟨hX, hbl, hbA⟩ := X
  subst hn
  intro v hv H locs ls0 hP hD hS hl
  exact va_sld hx hb hX hbl hbA hS hin hd (k v hv H locs ls0 hP hD hS hl)
theorem l_eq {κ : Kx Unit} {cc : ByteArray} {own : String} {nL fr lo : Nat} {T : List Nat} (C : Cx κ cc own nL fr lo T) {pc : Nat} (t : Nat) {ls : List (Nat × Value)} {st : List Value} {h : CH} {o : Option Unit} {x : Int32} {off : Int} (hd : decode cc pc = .ok (.if_icmp .eq off, 3)) (ht : (pc : Int) + off = (t : Int)) (k : Imp κ t ls st h o) : Imp κ pc ls (.int x :: .int x :: st) h o := by
  obtain ⟨p, l, e, R, s, m, args, below, meth, c, D, cid, ad, lv, A, cells, slots, Q⟩ := κ
  obtain ⟨⟨hx, hb, hml, hown, hts⟩, -⟩ := C
  intro v hv H locs ls0 hP hD hS hl
  exact lv_icmp_eq hx hb hd ht (fun g => k v hv H locs ls0 hP hD hS hl) (fun g => absurd rfl g)
theorem l_callI {κ : Kx Unit} {cc : ByteArray} {own : String} {nL fr lo : Nat} {T : List Nat} (C : Cx κ cc own nL fr lo T) {pc : Nat} (n : Nat) {ls : List (Nat × Value)} (st : List Value) {h h1 : CH} {idx : Nat} {y : MethodName} {b : ByteArray} {mL np : Nat} {ret : Option FieldType} {d ao ci : Nat} {As : (Nat → Nat) → List Value} {av stk : List Value} {o1 : Option (Int32 × CH)} {v : Int32} (he : o1 = some (v, h1))
    (hok : ∀ q, o1 = some q → MG y b mL ret [] d As h ((fun (q : Int32 × CH) (_ : Nat → Nat) => some (Value.int q.1)) q) ((fun (q : (Int32 × CH)) => q.2) q)) (hd : decode cc pc = .ok (.invokevirtual idx, 3)) (hL : LV own idx y b mL ret np) (hk : KT.getD ao (9, 0) = (0, ci)) (hcl : (vwCl[ci]?).map (fun q => q.1) = some y.cls) (ha : okid ao T = true) (hfr : d + 1 ≤ fr) (hlo : 8 + (mL + 11) + 40 * d ≤ lo) (hAs : As (kad κ) = .ref (kad κ ao) :: av) (hnp : av.length = np) (hst : (st.map fun v => v.category).sum ≤ 8) (hs : stk = av.reverse ++ .ref (kad κ ao) :: st) (hn : pc + 3 = n) (k : Imp κ n ls (.int v :: st) h1 (some ())) : Imp κ pc ls stk h (some ()) :=
  r_callV C n st (τ := {q : Int32 × CH // q = (v, h1)}) (o1 := some ⟨(v, h1), rfl⟩) (K := fun _ => some ()) (rv := fun q _ => some (Value.int q.1.1)) (hp := fun q => q.1.2) (T' := []) hd hL hk hcl ha rfl hfr hlo hAs hnp hst hs hn (fun q _ => by
    obtain ⟨q, rfl⟩ := q
    exact hok _ he) (fun q => by
    obtain ⟨q, rfl⟩ := q
    exact k)
theorem l_callP {κ : Kx Unit} {cc : ByteArray} {own : String} {nL fr lo : Nat} {T : List Nat} (C : Cx κ cc own nL fr lo T) {pc : Nat} (n : Nat) {ls : List (Nat × Value)} (st : List Value) {h : CH} {idx : Nat} {y : MethodName} {b : ByteArray} {mL np : Nat} {ret : Option FieldType} {d ao ci : Nat} {As : (Nat → Nat) → List Value} {av stk : List Value} {o1 : Option Int32} {v : Int32} (he : o1 = some v)
    (hok : ∀ q, o1 = some q → MG y b mL ret [] d As h ((fun (x : Int32) (_ : Nat → Nat) => some (Value.int x)) q) ((fun (_ : Int32) => h) q)) (hd : decode cc pc = .ok (.invokevirtual idx, 3)) (hL : LV own idx y b mL ret np) (hk : KT.getD ao (9, 0) = (0, ci)) (hcl : (vwCl[ci]?).map (fun q => q.1) = some y.cls) (ha : okid ao T = true) (hfr : d + 1 ≤ fr) (hlo : 8 + (mL + 11) + 40 * d ≤ lo) (hAs : As (kad κ) = .ref (kad κ ao) :: av) (hnp : av.length = np) (hst : (st.map fun v => v.category).sum ≤ 8) (hs : stk = av.reverse ++ .ref (kad κ ao) :: st) (hn : pc + 3 = n) (k : Imp κ n ls (.int v :: st) h (some ())) : Imp κ pc ls stk h (some ()) :=
  r_callV C n st (τ := {q : Int32 // q = v}) (o1 := some ⟨v, rfl⟩) (K := fun _ => some ()) (rv := fun q _ => some (Value.int q.1)) (hp := fun _ => h) (T' := []) hd hL hk hcl ha rfl hfr hlo hAs hnp hst hs hn (fun q _ => by
    obtain ⟨q, rfl⟩ := q
    exact hok _ he) (fun q => by
    obtain ⟨q, rfl⟩ := q
    exact k)
