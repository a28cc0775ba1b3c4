/-! making: loops, calls, arrays of references -/
theorem z_iload {κ : Kz} {cc : ByteArray} {own : String} {nL fr lo ce sl : Nat} (C : Cz κ cc own nL fr lo ce sl) {n : Nat} {U : List (Nat × Nat)} {cells slots pc : Nat} {ls : List (Nat × Value)} {st : List Value} {h : CH} (pc' : Nat) {i : Fin 4} {x : Int32} (j : Nat) (hj : ls[j]? = some ((i : Nat), .int x)) (hd : decode cc pc = .ok (.iload_n i, 1)) (hn : pc + 1 = pc') (k : Iz κ n U cells slots pc' ls (.int x :: st) h) : Iz κ n U cells slots pc ls (st) h := by
  obtain ⟨p, l, e, R, s, m, args, below, meth, c, D, cid, sz, Q⟩ := κ
  obtain ⟨⟨hx, hb, hml, hown, hts⟩, hKw, hsz, hfr, hlo, hce2, hsl2, hini⟩ := C
  have hK := hKw.1
  subst hn
  intro hv H locs ls0 hs hP hS hl
  exact lv_iload_n hx hb hd rfl (lv_at hl j hj) (k hv H locs ls0 hs hP hS hl)
theorem z_istore {κ : Kz} {cc : ByteArray} {own : String} {nL fr lo ce sl : Nat} (C : Cz κ cc own nL fr lo ce sl) {n : Nat} {U : List (Nat × Nat)} {cells slots pc : Nat} {ls : List (Nat × Value)} {st : List Value} {h : CH} (pc' : Nat) (i : Nat) {i4 : Fin 4} {x : Int32} (ls' : List (Nat × Value)) (hd : decode cc pc = .ok (.istore_n i4, 1)) (hi4 : (i4 : Nat) = i) (hi : i < nL) (hl' : (i, Value.int x) :: ls.filter (fun q => !(q.1 == i) && !(q.1 + 1 == i && q.2.category == 2)) = ls') (hn : pc + 1 = pc') (k : Iz κ n U cells slots pc' ls' st h) : Iz κ n U cells slots pc ls (.int x :: st) h := by
  obtain ⟨p, l, e, R, s, m, args, below, meth, c, D, cid, sz, Q⟩ := κ
  obtain ⟨⟨hx, hb, hml, hown, hts⟩, hKw, hsz, hfr, hlo, hce2, hsl2, hini⟩ := C
  have hK := hKw.1
  subst hn
  intro hv H locs ls0 hs hP hS hl
  exact lv_istore_n hx hb hd hi4 hl (by rw [hml]; exact hi) hl' (fun ls1 hl1 => k hv H locs ls1 hs hP hS hl1)
theorem z_iinc {κ : Kz} {cc : ByteArray} {own : String} {nL fr lo ce sl : Nat} (C : Cz κ cc own nL fr lo ce sl) {n : Nat} {U : List (Nat × Nat)} {cells slots pc : Nat} {ls : List (Nat × Value)} {st : List Value} {h : CH} (pc' : Nat) {i : Nat} {d : Int} {x : Int32} (j : Nat) (w : Int32) (ls' : List (Nat × Value)) (hd : decode cc pc = .ok (.iinc i d, 3)) (hj : ls[j]? = some (i, .int x)) (hw : Int32.ofInt d = w) (hi : i < nL) (hl' : (i, Value.int (x + w)) :: ls.filter (fun q => !(q.1 == i) && !(q.1 + 1 == i && q.2.category == 2)) = ls') (hn : pc + 3 = pc') (k : Iz κ n U cells slots pc' ls' st h) : Iz κ n U cells slots pc ls st h := by
  obtain ⟨p, l, e, R, s, m, args, below, meth, c, D, cid, sz, Q⟩ := κ
  obtain ⟨⟨hx, hb, hml, hown, hts⟩, hKw, hsz, hfr, hlo, hce2, hsl2, hini⟩ := C
  have hK := hKw.1
  subst hn
  intro hv H locs ls0 hs hP hS hl
  exact lv_iinc hx hb hd hl hj (by rw [hw]) (by rw [hml]; exact hi) hl' (fun ls1 hl1 => k hv H locs ls1 hs hP hS hl1)
theorem z_ge {κ : Kz} {cc : ByteArray} {own : String} {nL fr lo ce sl : Nat} (C : Cz κ cc own nL fr lo ce sl) {n : Nat} {U : List (Nat × Nat)} {cells slots pc : Nat} {ls : List (Nat × Value)} {st : List Value} {h : CH} (pc' : Nat) (t : Nat) {x y : Int32} {off : Int} (hd : decode cc pc = .ok (.if_icmp .ge off, 3)) (ht : (pc : Int) + off = (t : Int)) (hn : pc + 3 = pc') (k1 : x < y → Iz κ n U cells slots pc' ls st h) (k2 : ¬ (x < y) → Iz κ n U cells slots t ls st h) : Iz κ n U cells slots pc ls (.int y :: .int x :: st) h := by
  obtain ⟨p, l, e, R, s, m, args, below, meth, c, D, cid, sz, Q⟩ := κ
  obtain ⟨⟨hx, hb, hml, hown, hts⟩, hKw, hsz, hfr, hlo, hce2, hsl2, hini⟩ := C
  have hK := hKw.1
  subst hn
  intro hv H locs ls0 hs hP hS hl
  exact lv_icmp_ge hx hb hd ht (fun g => k2 (Int32.not_lt.mpr g) hv H locs ls0 hs hP hS hl) (fun g => k1 (Int32.not_le.mp g) hv H locs ls0 hs hP hS hl)
theorem z_goto {κ : Kz} {cc : ByteArray} {own : String} {nL fr lo ce sl : Nat} (C : Cz κ cc own nL fr lo ce sl) {n : Nat} {U : List (Nat × Nat)} {cells slots pc : Nat} {ls : List (Nat × Value)} {st : List Value} {h : CH} (t : Nat) {off : Int} (hd : decode cc pc = .ok (.goto off, 3)) (ht : (pc : Int) + off = (t : Int)) (k : Iz κ n U cells slots t ls st h) : Iz κ n U cells slots pc ls st h := by
  obtain ⟨p, l, e, R, s, m, args, below, meth, c, D, cid, sz, Q⟩ := κ
  obtain ⟨⟨hx, hb, hml, hown, hts⟩, hKw, hsz, hfr, hlo, hce2, hsl2, hini⟩ := C
  have hK := hKw.1
  intro hv H locs ls0 hs hP hS hl
  exact lv_goto hx hb hd ht (k hv H locs ls0 hs hP hS hl)
theorem SZ.go {sz : Nat} {u U : State} (hR : ∀ own k tx a, vk_R own k tx a u → vk_R own k tx a U) (hal : u.vm.Alike U.vm) (hq : ∀ a : Nat, a < u.heap.size → ¬ Az sz a → U.heap[a]? = u.heap[a]?) (h : SZ sz u) : SZ sz U := by
  obtain ⟨adK, adV, h1, h2, h3, h4⟩ := h
  exact ⟨adK, adV, hR _ _ _ _ h1, (h2.moved hal).kept hq, (h3.moved hal).kept hq, (h4.moved hal).kept hq⟩
theorem Kw.go {D : va_G} {cid : Nat → ClassId} {sz : Nat} {u U : State} (hR : ∀ own k tx a, vk_R own k tx a u → vk_R own k tx a U) (hN : ∀ a i x h, va_Nw (.methodLinkNest a i x h) u → va_Nw (.methodLinkNest a i x h) U) (hal : u.vm.Alike U.vm) (hq : ∀ a : Nat, a < u.heap.size → ¬ Az sz a → U.heap[a]? = u.heap[a]?) (h : Kw D cid sz u) : Kw D cid sz U :=
  ⟨va_K.moved hal h.1, AOq.moved hal h.2.1, va_AO.moved hal h.2.2.1, ⟨hN _ _ _ _ h.2.2.2.1.1, hN _ _ _ _ h.2.2.2.1.2.1, hN _ _ _ _ h.2.2.2.1.2.2⟩, SZ.go hR hal hq h.2.2.2.2⟩
def LI (own : String) (idx : Nat) (y : MethodName) (b : ByteArray) (mL np : Nat) : Prop := (∀ w ∈ ([.methodLink own idx y, .instanceMethod y, .initialized y.cls, .code y b mL none] : List Cond), w ∈ TS) ∧ y.name = "<init>" ∧ (y.cls ≠ "java/lang/invoke/MethodHandle" ∧ y.cls ≠ "java/lang/invoke/VarHandle") ∧ (parseMethodDescriptor y.desc).map (fun d => d.parameters.length) = some np
theorem mz_blind {D : va_G} {cid : Nat → ClassId} {sz n : Nat} {U : List (Nat × Nat)} {h : CH} {av : List Value} : FrameBlind (va_Pc av (fun S => S.heap.size = sz + n ∧ va_P D vwCl (wu cid sz n U h) S.heap ∧ Kw D cid sz S)) := by
  intro a S g mk q
  obtain ⟨q0, q1, qP, qF⟩ := q
  exact ⟨q0, q1, qP, Kw.go (u := S) (U := S.calling g mk a) (fun _ _ _ _ r => vk_R.same rfl r) (fun _ _ _ _ r => va_Nw.same rfl rfl r) (Vm.Alike.refl S.vm) (fun _ _ _ => rfl) qF⟩
theorem z_call {κ : Kz} {cc : ByteArray} {own : String} {nL fr lo ce sl : Nat} (C : Cz κ cc own nL fr lo ce sl) {n : Nat} {U : List (Nat × Nat)} {cells slots pc : Nat} {ls : List (Nat × Value)} {st : List Value} {h : CH} (pc' : Nat) {idx : Nat} {y : MethodName} {b : ByteArray} {mL np n1 fr' lo' ce' sl' x : Nat} {U1 : List (Nat × Nat)} {As : Nat → List Value} {av stk : List Value} {h1 : CH} (c1 c2 : Nat) (hd : decode cc pc = .ok (.invokespecial idx, 3)) (hL : LI own idx y b mL np) (hM : MZ y b mL n n1 U U1 fr' lo' ce' sl' As h h1) (hfr1 : fr' + 1 ≤ fr) (hlo1 : 8 + (mL + 11) + lo' ≤ lo) (hce1 : cells + ce' ≤ ce) (hsl1 : slots + sl' ≤ sl) (hc1 : cells + ce' = c1) (hc2 : slots + sl' = c2) (hAs : As (ksz κ) = .ref x :: av) (hnp : av.length = np) (hst : (st.map fun v => v.category).sum ≤ 8) (hstk : stk = av.reverse ++ .ref x :: st) (hn : pc + 3 = pc') (kk : Iz κ n1 U1 c1 c2 pc' ls st h1) : Iz κ n U cells slots pc ls stk h := by
  obtain ⟨p, l, e, R, s, m, args, below, meth, c, D, cid, sz, Q⟩ := κ
  obtain ⟨⟨hx, hb, hml, hown, hts⟩, hKw, hsz, hfr, hlo, hce2, hsl2, hini⟩ := C
  have hK := hKw.1
  subst hn
  intro hv H locs ls0 hs hP hS hl
  subst hc1
  subst hc2
  have hAs : As sz = .ref x :: av := hAs
  have hgood : GoodIn TS (Cond.code y b mL none :: TS) := by
    intro w hw
    have hm : w ∈ TS := by
      rcases List.mem_cons.mp hw with g | g
      · exact hL.1 w (by rw [g]; simp)
      · exact g
    exact ⟨hm, TS_good w hm⟩
  have hpre : PreS s H (va_Pc (As sz) (fun S => S.heap.size = sz + n ∧ va_P D vwCl (wu cid sz n U h) S.heap ∧ Kw D cid sz S)) (.ref x :: av) :=
    ⟨mz_blind, fun S hS1 hW => ⟨by rw [hAs], by rw [hS1]; exact hs, by rw [hS1]; exact hP, Kw.go (fun _ _ _ _ r => vk_R.warm hW r) (fun _ _ _ _ r => va_Nw.warmM hW r) hW.alike (fun a h1 h2 => by rw [hS1]; exact hS.2.1 a h1 h2) hKw⟩⟩
  refine va_callg (va_runI (g := F0 m pc ls0 stk) ⟨hx, hb, hml, hown, hts⟩ (hM l D cid sz hv) (cwI np hts hgood rfl rfl rfl (hts _ (hL.1 _ (by simp))) (hts _ (hL.1 _ (by simp))) (hts _ (hL.1 _ (by simp))) hL.2.1 ⟨hL.2.2.1.1, hL.2.2.1.2, hL.2.2.2⟩ ⟨Nat.le_trans hfr1 hfr, Nat.le_trans hlo1 hlo⟩) hpre rfl hnp (hl.1.trans hml) hstk (lv_room hst) hd ⟨Nat.le_trans hce1 hce2, Nat.le_trans hsl1 hsl2⟩) hS (fun q _ h => h) (fun q h => h) (fun t H1 locs1 ht hvm hB hS1 => ?_)
  obtain ⟨b1, b2, b3⟩ := hB
  rw [ht] at b2 b3
  exact kk b1 H1 locs1 ls0 b2 b3 hS1 hl
def LN (y : MethodName) (b : ByteArray) (mL np : Nat) : Prop := (∀ w ∈ ([.instanceMethod y, .initialized y.cls, .code y b mL none] : List Cond), w ∈ TS) ∧ y.name = "<init>" ∧ (y.cls ≠ "java/lang/invoke/MethodHandle" ∧ y.cls ≠ "java/lang/invoke/VarHandle") ∧ (parseMethodDescriptor y.desc).map (fun d => d.parameters.length) = some np
theorem z_callN {κ : Kz} {cc : ByteArray} {own : String} {nL fr lo ce sl : Nat} (C : Cz κ cc own nL fr lo ce sl) {n : Nat} {U : List (Nat × Nat)} {cells slots pc : Nat} {ls : List (Nat × Value)} {st : List Value} {h : CH} (pc' : Nat) {idx : Nat} {y : MethodName} {b : ByteArray} {mL np n1 fr' lo' ce' sl' x : Nat} {U1 : List (Nat × Nat)} {As : Nat → List Value} {av stk : List Value} {h1 : CH} (c1 c2 : Nat) (hd : decode cc pc = .ok (.invokespecial idx, 3)) {host : String} (hL : LN y b mL np) (hN : ∀ U, NW U → va_Nw (.methodLinkNest own idx y host) U) (hM : MZ y b mL n n1 U U1 fr' lo' ce' sl' As h h1) (hfr1 : fr' + 1 ≤ fr) (hlo1 : 8 + (mL + 11) + lo' ≤ lo) (hce1 : cells + ce' ≤ ce) (hsl1 : slots + sl' ≤ sl) (hc1 : cells + ce' = c1) (hc2 : slots + sl' = c2) (hAs : As (ksz κ) = .ref x :: av) (hnp : av.length = np) (hst : (st.map fun v => v.category).sum ≤ 8) (hstk : stk = av.reverse ++ .ref x :: st) (hn : pc + 3 = pc') (kk : Iz κ n1 U1 c1 c2 pc' ls st h1) : Iz κ n U cells slots pc ls stk h := by
  obtain ⟨p, l, e, R, s, m, args, below, meth, c, D, cid, sz, Q⟩ := κ
  obtain ⟨⟨hx, hb, hml, hown, hts⟩, hKw, hsz, hfr, hlo, hce2, hsl2, hini⟩ := C
  have hK := hKw.1
  subst hn
  intro hv H locs ls0 hs hP hS hl
  subst hc1
  subst hc2
  have hAs : As sz = .ref x :: av := hAs
  have hgood : GoodIn TS (Cond.code y b mL none :: TS) := by
    intro w hw
    have hm : w ∈ TS := by
      rcases List.mem_cons.mp hw with g | g
      · exact hL.1 w (by rw [g]; simp)
      · exact g
    exact ⟨hm, TS_good w hm⟩
  have hpre : PreS s H (va_Pc (As sz) (fun S => S.heap.size = sz + n ∧ va_P D vwCl (wu cid sz n U h) S.heap ∧ Kw D cid sz S)) (.ref x :: av) :=
    ⟨mz_blind, fun S hS1 hW => ⟨by rw [hAs], by rw [hS1]; exact hs, by rw [hS1]; exact hP, Kw.go (fun _ _ _ _ r => vk_R.warm hW r) (fun _ _ _ _ r => va_Nw.warmM hW r) hW.alike (fun a h1 h2 => by rw [hS1]; exact hS.2.1 a h1 h2) hKw⟩⟩
  refine va_callg (va_runIN (host := host) (g := F0 m pc ls0 stk) ⟨hx, hb, hml, hown, hts⟩ (hM l D cid sz hv) ⟨va_cnB np hts hgood rfl rfl rfl (hN s hKw.2.2.2.1) (hts _ (hL.1 _ (by simp))) ⟨hL.2.2.1.1, hL.2.2.1.2, hL.2.2.2⟩ ⟨Nat.le_trans hfr1 hfr, Nat.le_trans hlo1 hlo⟩, hL.2.1, hts _ (hL.1 _ (by simp))⟩ hpre rfl hnp (hl.1.trans hml) hstk (lv_room hst) hd ⟨Nat.le_trans hce1 hce2, Nat.le_trans hsl1 hsl2⟩) hS (fun q _ h => h) (fun q h => h) (fun t H1 locs1 ht hvm hB hS1 => ?_)
  obtain ⟨b1, b2, b3⟩ := hB
  rw [ht] at b2 b3
  exact kk b1 H1 locs1 ls0 b2 b3 hS1 hl
theorem mz_of {y : MethodName} {b : ByteArray} {nL n0 n1 : Nat} {U0 U1 : List (Nat × Nat)} {fr lo ce sl : Nat} {As : Nat → List Value} {h0 h1 : CH} (own : String) (hy : plainName y.cls = true) (hown : y.cls = own) (hini : y.name = "<init>") (hfit : ∀ sz, (lg_sl (As sz)).length ≤ nL)
    (body : ∀ κ : Kz, Cz κ b own nL fr lo ce sl → (∀ pc ls, decode b pc = .ok (.return_, 1) → Iz κ n1 U1 ce sl pc ls [] h1) → Iz κ n0 U0 0 0 0 (lv_args 0 (As (ksz κ))) [] h0) : MZ y b nL n0 n1 U0 U1 fr lo ce sl As h0 h1 := by
  intro l D cid sz hv0
  refine Met.ofW (cc := b) (maxL := nL) (ret := none) hy rfl ?_
  intro p e s m args below meth c s₁ B hml hv
  obtain ⟨rfl, hsz, hP, hF⟩ := hv
  have hx := B.exec
  have hb := B.bytes
  have hr := B.returns
  have hts0 := atoms_spec (ws := Cond.code y b nL none :: TS) B.pre
  have hts : ∀ w ∈ TS, w.before (As sz).toArray s = true := fun w h => hts0 w (List.mem_cons_of_mem _ h)
  have hcls : s.vm.findClass own = some m.cls := by rw [← hown]; exact findClass_of_methodNamed B.named
  have hlocks := B.notSynchronized
  have hmi : meth.name = "<init>" := (name_of_methodNamed B.named B.method).1.trans hini
  have hS : va_S (Az sz) s.heap s.heap [] := va_S.rf
  have hl := lv_entry (As sz) (n := nL) (hfit sz)
  rw [lg_entry_eq]
  generalize (lg_sl (As sz) ++ List.replicate (nL - (lg_sl (As sz)).length) Slot.unset).toArray = ls at hl ⊢
  have I := body (p, l, e, (headSpec (Cond.code y b nL none :: TS) { frames := fr, cells := ce, slots := sl, locals := lo }).room, s, m, (As sz).toArray, below, meth, c, D, cid, sz, MQ below (fun _ st oc t => (oc = .returned none ∧ (vash n1 h1 ∧ t.heap.size = sz + n1 ∧ va_P D vwCl (wu cid sz n1 U1 h1) t.heap)) ∧ va_F (Az sz) st t) (As sz).toArray s ce sl (Az sz))
    ⟨⟨hx, hb, hml, hcls, hts⟩, hF, by rw [hsz]; exact Nat.le_add_right _ _, Nat.le_refl _, Nat.le_refl _, Nat.le_refl _, Nat.le_refl _, hmi⟩
    (fun pc ls1 hd hv1 H locs ls2 hs1 hP1 hS1 hl1 => W.vret hx hb hr (fun t ht hW => ⟨⟨rfl, hv1, by rw [ht]; exact hs1, by rw [ht]; exact hP1⟩, hS1.F ht⟩) hS1.2.2 hd hlocks)
  have hl2 : lv_has ls c.maxLocals (lv_args 0 (As sz)) := by rw [hml]; exact hl
  exact I hv0 s.heap [] ls hsz hP hS hl2
