/-! the last constructor: when all cells stand -/
theorem wu_wl {cid : Nat → ClassId} {sz : Nat} {h : CH} : wu cid sz 193 [] h = wl cid (fun a => sz + a) (List.range 193) h := by
  unfold wu wl
  apply List.map_congr_left
  intro a _
  have hR : ∀ j, RU [] a j = RF a j := fun j => rfl
  have e : (fun j => (RU [] a j).map (fun b => sz + b)) = (fun j => (RF a j).map (fun b => sz + b)) := by funext j; rw [hR]
  have e3 : ∀ ci, fvu sz [] h a ci = fv (fun a => sz + a) h a ci := by
    intro ci
    funext j
    unfold fvu fv
    rw [hR]
  unfold cellU cellZ cellE cellK fvus fvs
  rw [e]
  simp only [e3]
def MY (y : MethodName) (b : ByteArray) (nL : Nat) (n0 : Nat) (U0 : List (Nat × Nat)) (fr lo ce sl : Nat) (As : Nat → List Value) (h0 h1 : CH) : Prop :=
  ∀ (l : Launch) (D : va_G) (cid : Nat → ClassId) (sz : Nat), vash n0 h0 →
    Met l y (Cond.code y b nL none :: TS) { frames := fr, cells := ce, slots := sl, locals := lo } (va_Pc (As sz) (fun S => S.heap.size = sz + n0 ∧ va_P D vwCl (wu cid sz n0 U0 h0) S.heap ∧ Kw D cid sz S)) (fun _ st oc t => (oc = .returned none ∧ va_P D vwCl (wl cid (fun a => sz + a) (List.range 193) h1) t.heap) ∧ va_F (Az sz) st t) ce sl (Az sz)
def Ko (κ : Kz) (ce sl : Nat) : Kx (Unit × CH) := match κ with
  | (p, l, e, R, s, m, args, below, meth, c, D, cid, sz, Q) => (p, l, e, R, s, m, args, below, meth, c, D, cid, (fun a => sz + a), List.range 193, Az sz, ce, sl, fun v => MQ below (fun _ st oc t => (oc = .returned none ∧ va_P D vwCl (wl cid (fun a => sz + a) (List.range 193) v.2) t.heap) ∧ va_F (Az sz) st t) args s ce sl (Az sz))
theorem my_of {y : MethodName} {b : ByteArray} {nL n0 : Nat} {U0 : List (Nat × Nat)} {fr lo ce sl : Nat} {As : Nat → List Value} {h0 h1 : CH} (own : String) (hy : plainName y.cls = true) (hown : y.cls = own) (hini : y.name = "<init>") (hfit : ∀ sz, (lg_sl (As sz)).length ≤ nL)
    (body : ∀ κ : Kz, Cz κ b own nL fr lo ce sl → Cx (Ko κ ce sl) b own nL fr lo [] → Rt (Ko κ ce sl) none (fun (_ : Unit × CH) (_ : Nat → Nat) => (none : Option Value)) (fun (q : (Unit × CH)) => q.2) → (∀ pc ls st h (o : Option (Unit × CH)), o = some ((), h1) → Imp (Ko κ ce sl) pc ls st h o → Iz κ 193 [] ce sl pc ls st h) → Iz κ n0 U0 0 0 0 (lv_args 0 (As (ksz κ))) [] h0) : MY y b nL n0 U0 fr lo ce sl As h0 h1 := by
  intro l D cid sz hv0
  refine Met.ofW (cc := b) (maxL := nL) (ret := none) hy rfl ?_
  intro p e s m args below meth c s₁ B hml hv
  obtain ⟨rfl, hsz, hP, hF⟩ := hv
  have hx := B.exec
  have hb := B.bytes
  have hr := B.returns
  have hts0 := atoms_spec (ws := Cond.code y b nL none :: TS) B.pre
  have hts : ∀ w ∈ TS, w.before (As sz).toArray s = true := fun w h => hts0 w (List.mem_cons_of_mem _ h)
  have hcls : s.vm.findClass own = some m.cls := by rw [← hown]; exact findClass_of_methodNamed B.named
  have hlocks := B.notSynchronized
  have hmi : meth.name = "<init>" := (name_of_methodNamed B.named B.method).1.trans hini
  have hS : va_S (Az sz) s.heap s.heap [] := va_S.rf
  have hle : sz ≤ s.heap.size := by rw [hsz]; exact Nat.le_add_right _ _
  have hl := lv_entry (As sz) (n := nL) (hfit sz)
  rw [lg_entry_eq]
  generalize (lg_sl (As sz) ++ List.replicate (nL - (lg_sl (As sz)).length) Slot.unset).toArray = ls at hl ⊢
  have I := body (p, l, e, (headSpec (Cond.code y b nL none :: TS) { frames := fr, cells := ce, slots := sl, locals := lo }).room, s, m, (As sz).toArray, below, meth, c, D, cid, sz, MQ below (fun _ st oc t => (oc = .returned none ∧ va_P D vwCl (wl cid (fun a => sz + a) (List.range 193) h1) t.heap) ∧ va_F (Az sz) st t) (As sz).toArray s ce sl (Az sz))
    ⟨⟨hx, hb, hml, hcls, hts⟩, hF, hle, Nat.le_refl _, Nat.le_refl _, Nat.le_refl _, Nat.le_refl _, hmi⟩
    ⟨⟨hx, hb, hml, hcls, hts⟩, hF.1, List.nodup_range, fun a ha => List.mem_range.mpr ha, fun a ha => (by cases ha), fun q hq => Nat.le_trans hle hq, Nat.le_refl _, Nat.le_refl _, Nat.le_refl _, Nat.le_refl _⟩
    ⟨hr, hlocks, _, Az sz, fun v => rfl, fun v H locs gP gD gS => ⟨fun t ht hW => ⟨⟨rfl, by rw [ht]; exact gP⟩, gS.F ht⟩, gS.2.2⟩⟩
    (fun pc ls1 st h o ho hI hv1 H locs ls2 hs1 hP1 hS1 hl1 => hI _ ho H locs ls2 (by rw [← wu_wl]; exact hP1) (by rw [← wu_wl]; exact wu_D) hS1 hl1)
  have hl2 : lv_has ls c.maxLocals (lv_args 0 (As sz)) := by rw [hml]; exact hl
  exact I hv0 s.heap [] ls hsz hP hS hl2
