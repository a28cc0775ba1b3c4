/-! contracts and calls -/
def Bw (D : va_G) (cid : Nat → ClassId) (ad : Nat → Nat) (lv : List Nat) (h : CH) (A : Nat → Prop) (U : State) : Prop := va_P D vwCl (wl cid ad lv h) U.heap ∧ va_K D vwCl (tysOf cid) U ∧ va_D A (wl cid ad lv h)
def Qg (D : va_G) (cid : Nat → ClassId) (ad : Nat → Nat) (lv : List Nat) (rv : Option Value) (h' : CH) (A : Nat → Prop) : Array Value → State → Outcome → State → Prop := fun _ st oc t => (oc = .returned rv ∧ Bw D cid ad lv h' A t) ∧ va_F A st t
/-- a method's contract: from the heap h it comes to h' and answers rv -/
def MG (y : MethodName) (b : ByteArray) (n : Nat) (ret : Option FieldType) (T : List Nat) (d : Nat) (As : (Nat → Nat) → List Value) (h : CH) (rv : (Nat → Nat) → Option Value) (h' : CH) : Prop :=
  ∀ (l : Launch) (D : va_G) (cid : Nat → ClassId) (ad : Nat → Nat) (lv : List Nat) (sz : Nat), lv.Nodup → (∀ a, a < NP → a ∈ lv) → (∀ a ∈ T, a ∈ lv) →
    Met l y (Cond.code y b n ret :: TS) { frames := d, cells := 0, slots := 0, locals := 40 * d } (va_Pc (As ad) (fun U => U.heap.size = sz ∧ Bw D cid ad lv h (fun _ => True) U)) (Qg D cid ad lv (rv ad) h' (va_A (wl cid ad lv h) sz)) 0 0 (va_A (wl cid ad lv h) sz)
theorem mg_of {σ : Type} {enc : σ → (Nat → Nat) → Option Value} {hp : σ → CH} {y : MethodName} {b : ByteArray} {n : Nat} {ret : Option FieldType} {T : List Nat} {d : Nat} {As : (Nat → Nat) → List Value} {h : CH} {o : Option σ} (own : String) (hy : plainName y.cls = true) (hown : y.cls = own) (hfit : ∀ ad, (lg_sl (As ad)).length ≤ n)
    (body : ∀ κ : Kx σ, Cx κ b own n d (40 * d) T → Rt κ ret enc hp → Imp κ 0 (lv_args 0 (As (kad κ))) [] h o) : ∀ w, o = some w → MG y b n ret T d As h (enc w) (hp w) := by
  intro w hw l D cid ad lv sz hnd hlv hT
  refine Met.ofW (cc := b) (maxL := n) (ret := ret) hy rfl ?_
  intro p e s m args below meth c s₁ B hml hv
  obtain ⟨rfl, hsz, hP, hK, hD0⟩ := hv
  have hx := B.exec
  have hb := B.bytes
  have hr := B.returns
  have hts0 := atoms_spec (ws := Cond.code y b n ret :: TS) B.pre
  have hts : ∀ w ∈ TS, w.before (As ad).toArray s = true := fun w h => hts0 w (List.mem_cons_of_mem _ h)
  have hcls : s.vm.findClass own = some m.cls := by rw [← hown]; exact findClass_of_methodNamed B.named
  have hlocks := B.notSynchronized
  subst hsz
  have hD := hD0.self (sz := s.heap.size)
  have hA : ∀ q : Nat, s.heap.size ≤ q → va_A (wl cid ad lv h) s.heap.size q := fun q h => Or.inr h
  have hS : va_S (va_A (wl cid ad lv h) s.heap.size) s.heap s.heap [] := va_S.rf
  have hl := lv_entry (As ad) (n := n) (hfit ad)
  rw [lg_entry_eq]
  generalize (lg_sl (As ad) ++ List.replicate (n - (lg_sl (As ad)).length) Slot.unset).toArray = ls at hl ⊢
  have I := body (p, l, e, (headSpec (Cond.code y b n ret :: TS) { frames := d, cells := 0, slots := 0, locals := 40 * d }).room, s, m, (As ad).toArray, below, meth, c, D, cid, ad, lv, va_A (wl cid ad lv h) s.heap.size, 0, 0, fun v => MQ below (Qg D cid ad lv (enc v ad) (hp v) (va_A (wl cid ad lv h) s.heap.size)) (As ad).toArray s 0 0 (va_A (wl cid ad lv h) s.heap.size))
    ⟨⟨hx, hb, hml, hcls, hts⟩, hK, hnd, hlv, hT, hA, Nat.le_refl _, Nat.le_refl _, Nat.zero_le _, Nat.zero_le _⟩
    ⟨hr, hlocks, fun v => Qg D cid ad lv (enc v ad) (hp v) (va_A (wl cid ad lv h) s.heap.size), va_A (wl cid ad lv h) s.heap.size, fun v => rfl, fun v H locs gP gD gS => ⟨fun t ht hW => ⟨⟨rfl, by rw [ht]; exact gP, va_K.moved hW.alike hK, gD⟩, gS.F ht⟩, gS.2.2⟩⟩
  have hl2 : lv_has ls c.maxLocals (lv_args 0 (As ad)) := by rw [hml]; exact hl
  exact I w hw s.heap [] ls hP hD hS hl2
theorem va_callg {p : Program} {l : Launch} {e : Env} {R : Room} {s : State} {m : MethodId} {args : Array Value} {below : List Frame} {meth : Method} {c : Code} {H : Heap} {locs : List Loc} {cells slots : Nat} {Q : State → Prop} {pc : Nat} {ls : Array Slot} {rest st0 : List Value} {A0 A1 : Nat → Prop} {H0 : Heap} {mc ms : Nat} {free : Addr → Prop} {rv : Option Value} {B : State → Prop}
    (hr : va_Run p l e R s m args below meth c H locs cells slots mc ms (F0 m pc ls st0) rest (fun st oc t => (oc = .returned rv ∧ B t) ∧ va_F A1 st t) free) (hS : va_S A0 H0 H locs) (hA : ∀ q, q < H.size → A1 q → A0 q) (hf : ∀ q, free q → A0 q)
    (kk : ∀ (t : State) (H1 : Heap) (locs1 : List Loc), t.heap = H1 → s.vm.Alike t.vm → B t → va_S A0 H0 H1 locs1 → W p l e R s m args below meth c H1 locs1 (cells + mc) (slots + ms) Q (F0 m (pc + 3) ls (rv.toList ++ rest))) : W p l e R s m args below meth c H locs cells slots Q (F0 m pc ls st0) := by
  intro T hT X
  obtain ⟨v, st₀, t, T', L, h0, X', hL, e1, e2, ⟨⟨hv, hb⟩, hz, hk⟩, st⟩ := hr T hT X
  cases hv
  rw [h0] at hz hk
  obtain ⟨t2, a1, b1⟩ := kk t T'.heap (locs ++ L) e1.symm (by rw [← e2]; exact X'.warmed.alike) hb
    ⟨Nat.le_trans hS.1 (by rw [e1]; exact hz), fun q h1 h2 => by rw [e1, hk q (Nat.lt_of_lt_of_le h1 hS.1) (fun z => h2 (hA q (Nat.lt_of_lt_of_le h1 hS.1) z))]; exact hS.2.1 q h1 h2, fun q hq => by
      rcases List.mem_append.mp hq with h | h
      · exact hS.2.2 q h
      · exact hf _ (hL q h)⟩ T' rfl X'
  exact ⟨t2, st t2 a1, b1⟩
theorem wl_free {cid : Nat → ClassId} {ad : Nat → Nat} {lv : List Nat} {h : CH} {A : Nat → Prop} {H0 H : Heap} {locs : List Loc} (hD : va_D A (wl cid ad lv h)) (hS : va_S A H0 H locs) (hA : ∀ q, H0.size ≤ q → A q) : ∀ q, va_A (wl cid ad lv h) H.size q → A q := by
  intro q hq
  rcases hq with ⟨k, e, hk⟩ | hq
  · exact hD.2 k _ hk
  · exact hA q (Nat.le_trans hS.1 hq)
theorem ts_goodV {own : String} {idx : Nat} {y : MethodName} {b : ByteArray} {mL np : Nat} {ret : Option FieldType} (h : LV own idx y b mL ret np) : GoodIn TS (wsV own idx y.cls y (Cond.code y b mL ret :: TS)) := by
  intro w hw
  have hm : w ∈ TS := by
    unfold wsV at hw
    rcases List.mem_append.mp hw with g | g
    · have h5 := h.1
      simp only [List.mem_cons, List.not_mem_nil, or_false] at g
      rcases g with rfl | rfl | rfl | rfl <;> exact h5 _ (by simp)
    · rcases List.mem_cons.mp g with g | g
      · exact h.1 w (by rw [g]; simp)
      · exact g
  exact ⟨hm, TS_good w hm⟩
theorem ts_goodS {own : String} {idx : Nat} {y : MethodName} {b : ByteArray} {mL np : Nat} {ret : Option FieldType} (h : LSt own idx y b mL ret np) : GoodIn TS (wsS own idx y (Cond.code y b mL ret :: TS)) := by
  intro w hw
  have hm : w ∈ TS := by
    unfold wsS at hw
    rcases List.mem_append.mp hw with g | g
    · have h5 := h.1
      simp only [List.mem_cons, List.not_mem_nil, or_false] at g
      rcases g with rfl | rfl | rfl <;> exact h5 _ (by simp)
    · rcases List.mem_cons.mp g with g | g
      · exact h.1 w (by rw [g]; simp)
      · exact g
  exact ⟨hm, TS_good w hm⟩
theorem bw_blind {D : va_G} {cid : Nat → ClassId} {ad : Nat → Nat} {lv : List Nat} {h : CH} {A : Nat → Prop} {sz : Nat} {av : List Value} : FrameBlind (va_Pc av (fun U => U.heap.size = sz ∧ Bw D cid ad lv h A U)) := by
  intro a U g mk q
  obtain ⟨q0, q1, qP, qK, qD⟩ := q
  exact ⟨q0, q1, qP, va_K.moved (u := U) (U := U.calling g mk a) (Vm.Alike.refl U.vm) qK, qD⟩
/-- an instance method's call -/
theorem r_callV {σ τ : Type} {κ : Kx σ} {cc : ByteArray} {own : String} {nL fr lo : Nat} {T : List Nat} (C : Cx κ cc own nL fr lo T) {pc : Nat} (n : Nat) {ls : List (Nat × Value)} (st : List Value) {h : CH} {idx : Nat} {y : MethodName} {b : ByteArray} {mL np : Nat} {ret : Option FieldType} {T' : List Nat} {d ao ci : Nat} {As : (Nat → Nat) → List Value} {av stk : List Value} {o1 : Option τ} {K : τ → Option σ} {rv : τ → (Nat → Nat) → Option Value} {hp : τ → CH}
    (hd : decode cc pc = .ok (.invokevirtual idx, 3)) (hL : LV own idx y b mL ret np) (hk : KT.getD ao (9, 0) = (0, ci)) (hcl : (vwCl[ci]?).map (fun q => q.1) = some y.cls) (ha : okid ao T = true) (hT' : okT T' T = true) (hfr : d + 1 ≤ fr) (hlo : 8 + (mL + 11) + 40 * d ≤ lo) (hAs : As (kad κ) = .ref (kad κ ao) :: av) (hnp : av.length = np) (hst : (st.map fun v => v.category).sum ≤ 8) (hs : stk = av.reverse ++ .ref (kad κ ao) :: st) (hn : pc + 3 = n)
    (hok : ∀ q, o1 = some q → MG y b mL ret T' d As h (rv q) (hp q)) (kk : ∀ q, Imp κ n ls ((rv q (kad κ)).toList ++ st) (hp q) (K q)) : Imp κ pc ls stk h (o1.bind K) := by
  obtain ⟨p, l, e, R, s, m, args, below, meth, c, D, cid, ad, lv, A, cells, slots, Q⟩ := κ
  obtain ⟨⟨hx, hb, hml, hown, hts⟩, hK, hnd, hlv, hT, hA, hfr1, hlo1, hce, hsl⟩ := C
  subst hn
  intro v hv H locs ls0 hP hD hS hl
  cases ho : o1 with
  | none => rw [ho] at hv; cases hv
  | some q =>
    rw [ho] at hv
    have hv : K q = some v := hv
    have hM := hok q ho l D cid ad lv H.size hnd hlv (fun a g => by
      have := List.all_eq_true.mp hT' a g
      exact hT a (by simpa using this))
    obtain ⟨q0, hq, he⟩ := wl_get (cid := cid) (ad := ad) (h := h) (rfl_of_mem ha hlv hT)
    have he2 : (wl cid ad lv h)[q0]? = some (ad ao, .inr (ci, fvs ad h ao ci)) := by rw [he]; unfold cellE; rw [hk]; rfl
    obtain ⟨qc, hqc, hqn⟩ : ∃ qc, vwCl[ci]? = some qc ∧ qc.1 = y.cls := by
      cases hz : vwCl[ci]? with
      | none => rw [hz] at hcl; cases hcl
      | some qc => rw [hz] at hcl; exact ⟨qc, rfl, Option.some.inj hcl⟩
    have hrec := va_recv hK hP hqc he2
    rw [hqn] at hrec
    have hAs : As ad = .ref (ad ao) :: av := hAs
    have hcw : CallW R s args own y.cls idx y b mL ret (Cond.code y b mL ret :: TS) { frames := d, cells := 0, slots := 0, locals := 40 * d } 0 0 np :=
      cwV np hts (ts_goodV hL) rfl rfl rfl ⟨rfl, hL.2.1.1, hL.2.1.2, hL.2.2⟩ ⟨Nat.le_trans hfr hfr1, Nat.le_trans hlo hlo1⟩
    have hpre : PreV s H y.cls (ad ao) (va_Pc (As ad) (fun U => U.heap.size = H.size ∧ Bw D cid ad lv h (fun _ => True) U)) av :=
      ⟨bw_blind, hrec, fun U hU hW => ⟨by rw [hAs], by rw [hU], by rw [hU]; exact hP, va_K.moved hW.alike hK, hD.weaken (fun _ _ _ _ => trivial)⟩⟩
    have hs : stk = av.reverse ++ .ref (ad ao) :: st := hs
    refine va_callg (va_runV (g := F0 m pc ls0 stk) ⟨hx, hb, hml, hown, hts⟩ hM hcw hpre rfl hnp (hl.1.trans hml) hs (lv_room hst) hd ⟨hce, hsl⟩) hS (fun q _ h => wl_free hD hS hA q h) (wl_free hD hS hA) (fun t H1 locs1 ht hvm hB hS1 => ?_)
    obtain ⟨hP1, hK1, hD1⟩ := hB
    rw [ht] at hP1
    exact kk q v hv H1 locs1 ls0 hP1 (hD1.weaken (fun k q _ g => wl_free hD hS hA q.1 g)) hS1 hl
/-- a static method's call -/
theorem r_callS {σ τ : Type} {κ : Kx σ} {cc : ByteArray} {own : String} {nL fr lo : Nat} {T : List Nat} (C : Cx κ cc own nL fr lo T) {pc : Nat} (n : Nat) {ls : List (Nat × Value)} (st : List Value) {h : CH} {idx : Nat} {y : MethodName} {b : ByteArray} {mL np : Nat} {ret : Option FieldType} {T' : List Nat} {d : Nat} {As : (Nat → Nat) → List Value} {av stk : List Value} {o1 : Option τ} {K : τ → Option σ} {rv : τ → (Nat → Nat) → Option Value} {hp : τ → CH}
    (hd : decode cc pc = .ok (.invokestatic idx, 3)) (hL : LSt own idx y b mL ret np) (hT' : okT T' T = true) (hfr : d + 1 ≤ fr) (hlo : 8 + (mL + 11) + 40 * d ≤ lo) (hAs : As (kad κ) = av) (hnp : av.length = np) (hst : (st.map fun v => v.category).sum ≤ 8) (hs : stk = av.reverse ++ st) (hn : pc + 3 = n)
    (hok : ∀ q, o1 = some q → MG y b mL ret T' d As h (rv q) (hp q)) (kk : ∀ q, Imp κ n ls ((rv q (kad κ)).toList ++ st) (hp q) (K q)) : Imp κ pc ls stk h (o1.bind K) := by
  obtain ⟨p, l, e, R, s, m, args, below, meth, c, D, cid, ad, lv, A, cells, slots, Q⟩ := κ
  obtain ⟨⟨hx, hb, hml, hown, hts⟩, hK, hnd, hlv, hT, hA, hfr1, hlo1, hce, hsl⟩ := C
  subst hn
  intro v hv H locs ls0 hP hD hS hl
  cases ho : o1 with
  | none => rw [ho] at hv; cases hv
  | some q =>
    rw [ho] at hv
    have hv : K q = some v := hv
    have hM := hok q ho l D cid ad lv H.size hnd hlv (fun a g => by
      have := List.all_eq_true.mp hT' a g
      exact hT a (by simpa using this))
    have hAs : As ad = av := hAs
    have hpre : PreS s H (va_Pc (As ad) (fun U => U.heap.size = H.size ∧ Bw D cid ad lv h (fun _ => True) U)) av :=
      ⟨bw_blind, fun U hU hW => ⟨by rw [hAs], by rw [hU], by rw [hU]; exact hP, va_K.moved hW.alike hK, hD.weaken (fun _ _ _ _ => trivial)⟩⟩
    refine va_callg (va_runS (g := F0 m pc ls0 stk) ⟨hx, hb, hml, hown, hts⟩ hM (cwS np hts (ts_goodS hL) rfl rfl rfl ⟨hL.2.1, hL.2.2.1.1, hL.2.2.1.2, hL.2.2.2⟩ ⟨Nat.le_trans hfr hfr1, Nat.le_trans hlo hlo1⟩) hpre rfl hnp (hl.1.trans hml) hs (lv_room hst) hd ⟨hce, hsl⟩) hS (fun q _ h => wl_free hD hS hA q h) (wl_free hD hS hA) (fun t H1 locs1 ht hvm hB hS1 => ?_)
    obtain ⟨hP1, hK1, hD1⟩ := hB
    rw [ht] at hP1
    exact kk q v hv H1 locs1 ls0 hP1 (hD1.weaken (fun k q _ g => wl_free hD hS hA q.1 g)) hS1 hl
