/-! town() and rules(): contracts -/
def MN (y : MethodName) (b : ByteArray) (n : Nat) (ret : Option FieldType) (d ce sl : Nat) (As : (Nat → Nat) → List Value) (h : CH) (rv : Option Value) (h' : CH) : Prop :=
  ∀ (l : Launch) (D : va_G) (cid : Nat → ClassId) (ad : Nat → Nat) (sz : Nat),
    Met l y (Cond.code y b n ret :: TS) { frames := d, cells := ce, slots := sl, locals := 40 * d } (va_Pc (As ad) (fun U => U.heap.size = sz ∧ Bw D cid ad (List.range 193) h (fun _ => True) U)) (Qg D cid ad (List.range 193) rv h' (va_A (wl cid ad (List.range 193) h) sz)) ce sl (va_A (wl cid ad (List.range 193) h) sz)
/-- what a call that makes one object of its own walks in -/
theorem mn_of {y : MethodName} {b : ByteArray} {n d ce sl : Nat} {As : (Nat → Nat) → List Value} {h : CH} {o : Option (Int32 × CH)} (own : String) (hy : plainName y.cls = true) (hown : y.cls = own) (hfit : ∀ ad, (lg_sl (As ad)).length ≤ n)
    (body : ∀ (p : Program) (l : Launch) (e : Env) (R : Room) (s : State) (m : MethodId) (args : Array Value) (below : List Frame) (meth : Method) (c : Code) (D : va_G) (cid : Nat → ClassId) (ad : Nat → Nat) (A : Nat → Prop) (Q : (Int32 × CH) → State → Prop),
      (∀ ad2 lv ce2 sl2 T, lv.Nodup → (∀ a, a < NP → a ∈ lv) → (∀ a ∈ T, a ∈ lv) → ce2 ≤ ce → sl2 ≤ sl → Cx ((p, l, e, R, s, m, args, below, meth, c, D, cid, ad2, lv, A, ce2, sl2, Q) : Kx (Int32 × CH)) b own n d (40 * d) T) →
      (∀ (ad2 : Nat → Nat) (x : List Nat), (∀ a, a < 193 → ad2 a = ad a) → Rt ((p, l, e, R, s, m, args, below, meth, c, D, cid, ad2, List.range 193 ++ x, A, ce, sl, Q) : Kx (Int32 × CH)) (some .int) (fun (q : (Int32 × CH)) (_ : Nat → Nat) => some (Value.int q.1)) (fun (q : (Int32 × CH)) => q.2)) →
      Imp ((p, l, e, R, s, m, args, below, meth, c, D, cid, ad, List.range 193, A, 0, 0, Q) : Kx (Int32 × CH)) 0 (lv_args 0 (As ad)) [] h o) : ∀ w, o = some w → MN y b n (some .int) d ce sl As h (some (.int w.1)) w.2 := by
  intro w hw l D cid ad sz
  refine Met.ofW (cc := b) (maxL := n) (ret := some .int) hy rfl ?_
  intro p e s m args below meth c s₁ B hml hv
  obtain ⟨rfl, hsz, hP, hK, hD0⟩ := hv
  have hx := B.exec
  have hb := B.bytes
  have hr := B.returns
  have hts0 := atoms_spec (ws := Cond.code y b n (some .int) :: TS) B.pre
  have hts : ∀ w ∈ TS, w.before (As ad).toArray s = true := fun w h => hts0 w (List.mem_cons_of_mem _ h)
  have hcls : s.vm.findClass own = some m.cls := by rw [← hown]; exact findClass_of_methodNamed B.named
  have hlocks := B.notSynchronized
  subst hsz
  have hD := hD0.self (sz := s.heap.size)
  have hA : ∀ q : Nat, s.heap.size ≤ q → va_A (wl cid ad (List.range 193) h) s.heap.size q := fun q h => Or.inr h
  have hS : va_S (va_A (wl cid ad (List.range 193) h) s.heap.size) s.heap s.heap [] := va_S.rf
  have hl := lv_entry (As ad) (n := n) (hfit ad)
  rw [lg_entry_eq]
  generalize (lg_sl (As ad) ++ List.replicate (n - (lg_sl (As ad)).length) Slot.unset).toArray = ls at hl ⊢
  have hl2 : lv_has ls c.maxLocals (lv_args 0 (As ad)) := by rw [hml]; exact hl
  refine body p l e _ s m (As ad).toArray below meth c D cid ad (va_A (wl cid ad (List.range 193) h) s.heap.size) (fun v => MQ below (Qg D cid ad (List.range 193) (some (.int v.1)) v.2 (va_A (wl cid ad (List.range 193) h) s.heap.size)) (As ad).toArray s ce sl (va_A (wl cid ad (List.range 193) h) s.heap.size))
    (fun ad2 lv ce2 sl2 T hnd hlv hT h1 h2 => ⟨⟨hx, hb, hml, hcls, hts⟩, hK, hnd, hlv, hT, hA, Nat.le_refl _, Nat.le_refl _, h1, h2⟩)
    (fun ad2 x hx2 => ⟨hr, hlocks, fun v => Qg D cid ad (List.range 193) (some (.int v.1)) v.2 (va_A (wl cid ad (List.range 193) h) s.heap.size), va_A (wl cid ad (List.range 193) h) s.heap.size, fun v => rfl, fun v H locs gP gD gS => ?_⟩) w hw s.heap [] ls hP hD hS hl2
  have hpre : ∀ (k : Nat) (q : Nat × va_E), (wl cid ad (List.range 193) v.2)[k]? = some q → (wl cid ad2 (List.range 193 ++ x) v.2)[k]? = some q := by
    intro k q hq
    have hk : k < 193 := by
      have := (List.getElem?_eq_some_iff.mp hq).1
      rw [wlr_len] at this
      exact this
    rw [wlr_get hk] at hq
    rw [← hq]
    unfold wl
    rw [List.getElem?_map, List.getElem?_append_left (by rw [List.length_range]; exact hk), List.getElem?_range hk]
    show some (ad2 k, cellE cid ad2 v.2 k) = some (ad k, cellE cid ad v.2 k)
    have hR : ∀ j, (RF k j).map ad2 = (RF k j).map ad := by
      intro j
      cases hr : RF k j with
      | none => rfl
      | some b =>
        show some (ad2 b) = some (ad b)
        rw [hx2 b (rf_small k hk j b hr)]
    have e3 : ∀ ci, fv ad2 v.2 k ci = fv ad v.2 k ci := by
      intro ci
      funext j
      unfold fv
      rw [hR]
    rw [hx2 k hk]
    unfold cellE cellK fvs
    simp only [e3, hR]
  exact ⟨fun t ht hW => ⟨⟨rfl, by rw [ht]; exact fun k q hq => gP k q (hpre k q hq), va_K.moved hW.alike hK, ⟨fun i j a b ha hb e => gD.1 i j a b (hpre i a ha) (hpre j b hb) e, fun k q hq => gD.2 k q (hpre k q hq)⟩⟩, gS.F ht⟩, gS.2.2⟩
